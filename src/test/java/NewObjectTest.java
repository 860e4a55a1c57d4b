/** Promise 1, one method for each of its cases. */
public final class NewObjectTest {
    public static void main(String[] args) {
        noReads();
        noClosedPeriod();
        emptyLedgers();
        allSixItemsZero();
        objectsShareNothing();
        Checks.end();
    }

    /** "No reads". */
    private static void noReads() {
        UtilityRebiller x = new UtilityRebiller();
        for (int interval = 0; interval < 48; interval++) {
            for (int account = 0; account < 2; account++) {
                String at = "(" + account + ", " + interval + ")";
                Checks.due("new: usage" + at, x.usage(account, interval), 0);
                Checks.due("new: unread" + at, x.unread(account, interval), UtilityRebiller.NO_READ);
            }
        }
    }

    /** "no closed period": the amounts follow the tariff of now, and all six can still be closed. */
    private static void noClosedPeriod() {
        UtilityRebiller x = new UtilityRebiller();
        x.tariff(5, 1);
        for (int period = 0; period < 6; period++) {
            Checks.due("new: amount(0, " + period + ")", x.amount(0, period), 1000);
            Checks.due("new: amount(1, " + period + ")", x.amount(1, period), 1000);
        }
        for (int period = 0; period < 6; period++) {
            Checks.due("new: close() number " + period, x.close(), period);
        }
        UtilityRebiller y = new UtilityRebiller();
        Checks.setTariff(y, 99, 99, 99, 99, 99, 99);
        for (int interval = 0; interval < 48; interval++) {
            Checks.due("new: read(0, " + interval + ", 999) bills nothing", y.read(0, interval, 999), 0);
        }
    }

    /** "empty ledgers". */
    private static void emptyLedgers() {
        UtilityRebiller x = new UtilityRebiller();
        for (int account = 0; account < 2; account++) {
            Checks.due("new: lines(" + account + ")", x.lines(account), 0);
            Checks.due("new: balance(" + account + ")", x.balance(account), 0);
            for (int back = 0; back < 8; back++) {
                Checks.due("new: lineAmount(" + account + ", " + back + ")", x.lineAmount(account, back), 0);
                Checks.due("new: linePeriod(" + account + ", " + back + ")", x.linePeriod(account, back),
                        UtilityRebiller.BAD_PERIOD);
            }
        }
    }

    /** "all six items of the tariff 0": told by tariff, and by an amount in which each item would count. */
    private static void allSixItemsZero() {
        UtilityRebiller x = new UtilityRebiller();
        Checks.readPeriod(x, 0, 0, 999, 999, 999, 999, 999, 999, 999, 999);
        Checks.due("new, all read: amount(0, 0)", x.amount(0, 0), 0);
        Checks.due("new, all read: amount(0, 5)", x.amount(0, 5), 0);
        x.close();
        Checks.due("new, all read, closed: lineAmount(0, 0)", x.lineAmount(0, 0), 0);
        for (int item = 0; item < 6; item++) {
            Checks.due("new: tariff(" + item + ", 99)", x.tariff(item, 99), 0);
        }
    }

    private static void objectsShareNothing() {
        UtilityRebiller used = new UtilityRebiller();
        Checks.setTariff(used, 1, 2, 3, 4, 5, 6);
        used.read(0, 3, 70);
        used.close();
        UtilityRebiller x = new UtilityRebiller();
        Checks.due("beside a used one: usage(0, 3)", x.usage(0, 3), 0);
        Checks.due("beside a used one: lines(0)", x.lines(0), 0);
        Checks.due("beside a used one: amount(0, 0)", x.amount(0, 0), 0);
        Checks.due("beside a used one: close()", x.close(), 0);
    }
}
