/** Promise 4: unread takes a read back, and bills anew as a read does. */
public final class UnreadTest {
    public static void main(String[] args) {
        takenBack();
        billedAnew();
        aLaterReadHidesIt();
        equalAmountIsNotBilledAnew();
        everyInterval();
        wrongArguments();
        Checks.end();
    }

    private static void takenBack() {
        UtilityRebiller x = new UtilityRebiller();
        x.read(0, 5, 60);
        x.read(0, 13, 70);
        Checks.due("unread(1, 13)", x.unread(1, 13), UtilityRebiller.NO_READ);
        Checks.due("unread(0, 13)", x.unread(0, 13), 0);
        Checks.due("usage(0, 13)", x.usage(0, 13), 60);
        Checks.due("unread(0, 13) again", x.unread(0, 13), UtilityRebiller.NO_READ);
        Checks.due("unread(0, 5)", x.unread(0, 5), 0);
        Checks.due("usage(0, 5)", x.usage(0, 5), 0);
        Checks.due("usage(0, 13) after both", x.usage(0, 13), 0);
        x.read(0, 13, 0);
        Checks.due("read anew: unread(0, 13)", x.unread(0, 13), 0);
    }

    private static void billedAnew() {
        UtilityRebiller x = new UtilityRebiller();
        Checks.setTariff(x, 1, 1, 1);
        x.read(0, 0, 10);
        x.close();
        x.tariff(0, 2);
        x.close();
        x.tariff(0, 50);
        Checks.ledgerEnds("closed", x, 0, 0, 80, 1, 20);
        Checks.due("unread(0, 0)", x.unread(0, 0), 2);
        Checks.ledgerEnds("taken back", x, 0, 0, 80, 1, 20, 0, -80, 0, 0, 1, -20, 1, 0);
        Checks.due("taken back: lines(0)", x.lines(0), 6);
        Checks.due("taken back: balance(0)", x.balance(0), 0);
        Checks.due("taken back: lines(1)", x.lines(1), 2);
        Checks.due("open periods: read(0, 16, 9)", x.read(0, 16, 9), 0);
        Checks.due("open periods: unread(0, 16)", x.unread(0, 16), 0);
        Checks.due("open periods: lines(0)", x.lines(0), 6);
    }

    private static void aLaterReadHidesIt() {
        UtilityRebiller x = new UtilityRebiller();
        Checks.setTariff(x, 1, 1, 1);
        Checks.readPeriod(x, 1, 0, 10, 0, 0, 0, 0, 0, 0, 0);
        x.read(1, 8, 30);
        x.close();
        x.close();
        x.close();
        Checks.due("period 1 has its own read: unread(1, 0)", x.unread(1, 0), 1);
        Checks.ledgerEnds("period 0 alone", x, 1, 2, 30, 0, -10, 0, 0);
        x.read(1, 0, 30);
        Checks.due("the estimate is what was read: unread(1, 8)", x.unread(1, 8), 0);
    }

    private static void equalAmountIsNotBilledAnew() {
        UtilityRebiller x = new UtilityRebiller();
        Checks.setTariff(x, 1, 1, 1, 1, 0, 9);
        x.read(0, 4, 900);
        x.close();
        Checks.due("below the least amount: unread(0, 4)", x.unread(0, 4), 0);
        Checks.due("below the least amount: lines(0)", x.lines(0), 1);
        Checks.due("below the least amount: usage(0, 4)", x.usage(0, 4), 0);
    }

    private static void everyInterval() {
        UtilityRebiller x = new UtilityRebiller();
        for (int interval = 0; interval < 48; interval++) {
            x.read(0, interval, 1);
            x.read(1, interval, 1);
        }
        for (int interval = 0; interval < 48; interval++) {
            Checks.due("unread(0, " + interval + ")", x.unread(0, interval), 0);
            Checks.due("unread(0, " + interval + ") again", x.unread(0, interval), UtilityRebiller.NO_READ);
            Checks.due("unread(1, " + interval + ")", x.unread(1, interval), 0);
        }
    }

    private static void wrongArguments() {
        UtilityRebiller x = new UtilityRebiller();
        Checks.setTariff(x, 1, 2, 3, 4, 5);
        for (int slot = 0; slot < 8; slot++) {
            x.read(0, slot, 17);
            x.read(1, 40 + slot, 17);
        }
        x.close();
        int[] before = Checks.state(x);
        for (int account : Checks.wrongAccounts()) {
            Checks.due("unread(" + account + ", 0)", x.unread(account, 0), UtilityRebiller.BAD_ACCOUNT);
            Checks.due("unread(" + account + ", 48)", x.unread(account, 48), UtilityRebiller.BAD_ACCOUNT);
        }
        for (int interval : Checks.wrongIntervals()) {
            Checks.due("unread(0, " + interval + ")", x.unread(0, interval), UtilityRebiller.BAD_INTERVAL);
            Checks.due("unread(1, " + interval + ")", x.unread(1, interval), UtilityRebiller.BAD_INTERVAL);
        }
        Checks.due("unread(0, 8)", x.unread(0, 8), UtilityRebiller.NO_READ);
        Checks.due("unread(1, 0)", x.unread(1, 0), UtilityRebiller.NO_READ);
        Checks.sameState("a refused unread", x, before);
    }
}
