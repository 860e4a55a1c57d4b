/** Promise 3: a read is kept, and the closed periods whose amount it changes are billed anew. */
public final class ReadTest {
    public static void main(String[] args) {
        keptAndReplaced();
        edges();
        openPeriodsAreNotBilled();
        changedPeriodsInAscendingOrder();
        equalAmountIsNotBilledAnew();
        amountsThatOnlyMoveAboutAreNotBilledAnew();
        underTheTariffOfTheClosing();
        oldAmountIsTheLastBilledOne();
        otherAccountIsLeftAlone();
        wrongArguments();
        orderOfTests();
        Checks.end();
    }

    private static void keptAndReplaced() {
        UtilityRebiller x = new UtilityRebiller();
        Checks.due("read(0, 20, 30)", x.read(0, 20, 30), 0);
        Checks.due("usage(0, 20)", x.usage(0, 20), 30);
        Checks.due("read(0, 20, 5)", x.read(0, 20, 5), 0);
        Checks.due("replaced: usage(0, 20)", x.usage(0, 20), 5);
        Checks.due("one read, not two: unread(0, 20)", x.unread(0, 20), 0);
        Checks.due("one read, not two: unread(0, 20) again", x.unread(0, 20), UtilityRebiller.NO_READ);
    }

    private static void edges() {
        UtilityRebiller x = new UtilityRebiller();
        for (int account = 0; account < 2; account++) {
            for (int interval = 0; interval < 48; interval++) {
                int usage = 100 * account + interval;
                Checks.due("read(" + account + ", " + interval + ")", x.read(account, interval, usage), 0);
            }
        }
        for (int account = 0; account < 2; account++) {
            for (int interval = 0; interval < 48; interval++) {
                Checks.due("usage(" + account + ", " + interval + ")", x.usage(account, interval), 100 * account + interval);
            }
        }
        Checks.due("read(0, 0, 999)", x.read(0, 0, 999), 0);
        Checks.due("usage(0, 0)", x.usage(0, 0), 999);
        Checks.due("read(1, 47, 0)", x.read(1, 47, 0), 0);
        Checks.due("usage(1, 47)", x.usage(1, 47), 0);
        Checks.due("a read of 0 is a read: unread(1, 47)", x.unread(1, 47), 0);
    }

    private static void openPeriodsAreNotBilled() {
        UtilityRebiller x = new UtilityRebiller();
        Checks.setTariff(x, 1, 1, 1);
        x.close();
        Checks.due("read in an open period", x.read(0, 8, 50), 0);
        Checks.due("read in an open period: lines(0)", x.lines(0), 1);
        Checks.due("read that reaches period 0 alone of the closed", x.read(0, 0, 50), 1);
        Checks.due("read that reaches period 0 alone: lines(0)", x.lines(0), 3);
    }

    private static void changedPeriodsInAscendingOrder() {
        UtilityRebiller x = new UtilityRebiller();
        Checks.setTariff(x, 1, 1, 1);
        Checks.readPeriod(x, 0, 0, 10, 0, 0, 0, 0, 0, 0, 0);
        x.close();
        x.tariff(0, 2);
        x.close();
        x.tariff(0, 3);
        x.close();
        Checks.ledgerEnds("three closed", x, 0, 0, 10, 1, 20, 2, 30);
        Checks.due("read(0, 0, 15)", x.read(0, 0, 15), 3);
        Checks.ledgerEnds("billed anew", x, 0, 1, 20, 2, 30, 0, -10, 0, 15, 1, -20, 1, 30, 2, -30, 2, 45);
        Checks.due("billed anew: lines(0)", x.lines(0), 9);
        Checks.due("billed anew: balance(0)", x.balance(0), 90);
        Checks.due("read(0, 8, 15), the same as the usage before", x.read(0, 8, 15), 0);
        Checks.due("read(0, 8, 1)", x.read(0, 8, 1), 2);
        Checks.ledgerEnds("from period 1 on", x, 0, 1, -30, 1, 2, 2, -45, 2, 3);
        Checks.due("read(0, 0, 20) reaches period 0 alone", x.read(0, 0, 20), 1);
        Checks.ledgerEnds("period 0 alone", x, 0, 2, 3, 0, -15, 0, 20);
    }

    private static void equalAmountIsNotBilledAnew() {
        UtilityRebiller x = new UtilityRebiller();
        Checks.setTariff(x, 1, 1, 1, 0, 0, 1);
        x.close();
        Checks.due("below the least amount: read(0, 0, 100)", x.read(0, 0, 100), 0);
        Checks.due("below the least amount: lines(0)", x.lines(0), 1);
        Checks.due("at the least amount: read(0, 0, 125)", x.read(0, 0, 125), 0);
        Checks.due("above the least amount: read(0, 0, 126)", x.read(0, 0, 126), 1);
        Checks.ledgerEnds("above the least amount", x, 0, 0, 1000, 0, -1000, 0, 1008);
        Checks.due("the same read again", x.read(0, 0, 126), 0);
        Checks.due("the same read again: lines(0)", x.lines(0), 3);
        Checks.due("below again: read(0, 0, 3)", x.read(0, 0, 3), 1);
        Checks.ledgerEnds("below again", x, 0, 0, -1008, 0, 1000);
    }

    private static void amountsThatOnlyMoveAboutAreNotBilledAnew() {
        UtilityRebiller x = new UtilityRebiller();
        Checks.setTariff(x, 2, 2, 4);
        Checks.readPeriod(x, 0, 0, 8, 0, 0, 0, 0, 0, 0, 0);
        x.close();
        x.close();
        Checks.due("read(0, 0, 0) lowers both", x.read(0, 0, 0), 2);
        Checks.due("read(0, 7, 4) brings the old amount", x.read(0, 7, 4), 2);
        Checks.ledgerEnds("there and back", x, 0, 0, -16, 0, 0, 1, -16, 1, 0, 0, 0, 0, 16, 1, 0, 1, 16);
    }

    private static void underTheTariffOfTheClosing() {
        UtilityRebiller x = new UtilityRebiller();
        Checks.setTariff(x, 1, 1, 1);
        Checks.readPeriod(x, 1, 0, 10, 0, 0, 0, 0, 0, 0, 0);
        x.close();
        Checks.setTariff(x, 9, 9, 9, 9, 9, 9);
        Checks.due("tariff changed since: read(1, 0, 10)", x.read(1, 0, 10), 0);
        Checks.due("tariff changed since: read(1, 0, 11)", x.read(1, 0, 11), 1);
        Checks.ledgerEnds("tariff changed since", x, 1, 0, 10, 0, -10, 0, 11);
    }

    private static void oldAmountIsTheLastBilledOne() {
        UtilityRebiller x = new UtilityRebiller();
        Checks.setTariff(x, 1, 1, 1);
        x.close();
        x.read(0, 0, 1);
        x.read(0, 0, 2);
        x.read(0, 0, 3);
        Checks.ledgerEnds("three corrections", x, 0, 0, 0, 0, 0, 0, 8, 0, -8, 0, 16, 0, -16, 0, 24);
        Checks.due("three corrections: lines(0)", x.lines(0), 7);
        Checks.due("three corrections: balance(0)", x.balance(0), 24);
    }

    private static void otherAccountIsLeftAlone() {
        UtilityRebiller x = new UtilityRebiller();
        Checks.setTariff(x, 1, 1, 1);
        x.close();
        Checks.due("read(1, 0, 5)", x.read(1, 0, 5), 1);
        Checks.due("other account: lines(0)", x.lines(0), 1);
        Checks.due("other account: balance(0)", x.balance(0), 0);
        Checks.due("other account: usage(0, 0)", x.usage(0, 0), 0);
        Checks.due("other account: read(0, 0, 7)", x.read(0, 0, 7), 1);
        Checks.due("other account: lines(1)", x.lines(1), 3);
        Checks.due("other account: balance(1)", x.balance(1), 40);
    }

    private static void wrongArguments() {
        UtilityRebiller x = new UtilityRebiller();
        Checks.setTariff(x, 1, 2, 3, 4, 5);
        x.read(0, 2, 17);
        x.close();
        int[] before = Checks.state(x);
        for (int account : Checks.wrongAccounts()) {
            Checks.due("read(" + account + ", 0, 5)", x.read(account, 0, 5), UtilityRebiller.BAD_ACCOUNT);
        }
        for (int interval : Checks.wrongIntervals()) {
            Checks.due("read(0, " + interval + ", 5)", x.read(0, interval, 5), UtilityRebiller.BAD_INTERVAL);
            Checks.due("read(1, " + interval + ", 5)", x.read(1, interval, 5), UtilityRebiller.BAD_INTERVAL);
        }
        int[] wrong = {-1, 1000, 1001, Integer.MIN_VALUE, Integer.MAX_VALUE};
        for (int usage : wrong) {
            Checks.due("read(0, 2, " + usage + ")", x.read(0, 2, usage), UtilityRebiller.BAD_READ);
            Checks.due("read(1, 0, " + usage + ")", x.read(1, 0, usage), UtilityRebiller.BAD_READ);
        }
        Checks.sameState("a refused read", x, before);
        Checks.due("no read kept: unread(1, 0)", x.unread(1, 0), UtilityRebiller.NO_READ);
    }

    private static void orderOfTests() {
        UtilityRebiller x = new UtilityRebiller();
        Checks.due("read(2, 48, 1000)", x.read(2, 48, 1000), UtilityRebiller.BAD_ACCOUNT);
        Checks.due("read(-1, 0, -1)", x.read(-1, 0, -1), UtilityRebiller.BAD_ACCOUNT);
        Checks.due("read(0, 48, 1000)", x.read(0, 48, 1000), UtilityRebiller.BAD_INTERVAL);
        Checks.due("read(1, -1, -1)", x.read(1, -1, -1), UtilityRebiller.BAD_INTERVAL);
    }
}
