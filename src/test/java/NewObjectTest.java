/** Promise 1: no reads, no closed period, empty ledgers, all six items of the tariff 0. */
public final class NewObjectTest {
    public static void main(String[] args) {
        noReads();
        noClosedPeriodAndEmptyLedgers();
        tariffOfZeros();
        objectsShareNothing();
        Checks.end();
    }

    private static void noReads() {
        UtilityRebiller x = new UtilityRebiller();
        for (int account = 0; account < 2; account++) {
            for (int interval = 0; interval < 48; interval++) {
                Checks.due("new: usage(" + account + ", " + interval + ")", x.usage(account, interval), 0);
                Checks.due("new: unread(" + account + ", " + interval + ")", x.unread(account, interval),
                        UtilityRebiller.NO_READ);
            }
        }
    }

    private static void noClosedPeriodAndEmptyLedgers() {
        UtilityRebiller x = new UtilityRebiller();
        for (int account = 0; account < 2; account++) {
            Checks.due("new: lines(" + account + ")", x.lines(account), 0);
            Checks.due("new: balance(" + account + ")", x.balance(account), 0);
            for (int back = 0; back < 8; back++) {
                Checks.due("new: lineAmount(" + account + ", " + back + ")", x.lineAmount(account, back), 0);
                Checks.due("new: linePeriod(" + account + ", " + back + ")", x.linePeriod(account, back),
                        UtilityRebiller.BAD_PERIOD);
            }
        }
        Checks.due("new: close()", x.close(), 0);
    }

    private static void tariffOfZeros() {
        UtilityRebiller x = new UtilityRebiller();
        x.read(0, 0, 999);
        for (int period = 0; period < 6; period++) {
            Checks.due("new: amount(0, " + period + ")", x.amount(0, period), 0);
            Checks.due("new: amount(1, " + period + ")", x.amount(1, period), 0);
        }
        for (int item = 0; item < 6; item++) {
            Checks.due("new: tariff(" + item + ", 5)", x.tariff(item, 5), 0);
        }
    }

    private static void objectsShareNothing() {
        UtilityRebiller used = new UtilityRebiller();
        Checks.setTariff(used, 1, 2, 3, 4, 5, 6);
        used.read(0, 3, 70);
        used.close();
        UtilityRebiller x = new UtilityRebiller();
        Checks.due("beside a used one: usage(0, 3)", x.usage(0, 3), 0);
        Checks.due("beside a used one: lines(0)", x.lines(0), 0);
        Checks.due("beside a used one: amount(0, 0)", x.amount(0, 0), 0);
        Checks.due("beside a used one: close()", x.close(), 0);
    }
}
