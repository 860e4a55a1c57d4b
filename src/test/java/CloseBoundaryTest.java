/** The boundary cases of promise 5, one method for each sentence. */
public final class CloseBoundaryTest {
    public static void main(String[] args) {
        firstToSixth();
        allClosed();
        allClosedManyTimes();
        tariffAsItIsNow();
        forGood();
        aLineForEachAccount();
        Checks.end();
    }

    /** "Closes the next period (0 first) for both accounts ... Answers the period": the first, the sixth, the seventh. */
    private static void firstToSixth() {
        UtilityRebiller x = new UtilityRebiller();
        x.tariff(5, 1);
        for (int period = 0; period < 6; period++) {
            Checks.due("close()", x.close(), period);
            for (int account = 0; account < 2; account++) {
                Checks.due("linePeriod(" + account + ", 0)", x.linePeriod(account, 0), period);
                Checks.due("lines(" + account + ")", x.lines(account), period + 1);
                Checks.due("balance(" + account + ")", x.balance(account), 1000 * (period + 1));
            }
        }
        Checks.due("the seventh close()", x.close(), UtilityRebiller.ALL_CLOSED);
        Checks.due("after the seventh: lines(0)", x.lines(0), 6);
        Checks.due("after the seventh: lines(1)", x.lines(1), 6);
    }

    /** "ALL_CLOSED if all six are closed (nothing changes)". */
    private static void allClosed() {
        Refusals.inState(Refusals.ALL_CLOSED, "close()", UtilityRebiller.ALL_CLOSED, x -> x.close());
    }

    /** "nothing changes": also no period's tariff, with each item set anew before the refused call. */
    private static void allClosedManyTimes() {
        UtilityRebiller x = new UtilityRebiller();
        Checks.setTariff(x, 1, 1, 1, 1, 1, 1);
        Checks.readPeriod(x, 0, 0, 500, 500, 500, 500, 500, 500, 500, 500);
        for (int period = 0; period < 6; period++) {
            x.close();
        }
        for (int item = 0; item < 6; item++) {
            x.tariff(item, 99);
            Checks.due("item " + item + " set: close()", x.close(), UtilityRebiller.ALL_CLOSED);
            for (int period = 0; period < 6; period++) {
                Checks.due("item " + item + " set: amount(0, " + period + ")", x.amount(0, period), 6500);
            }
            Checks.due("item " + item + " is kept", x.tariff(item, 99), 99);
        }
        Checks.due("lines(0)", x.lines(0), 6);
        Checks.due("a read still bills anew", x.read(0, 0, 501), 6);
    }

    /** "the tariff as it is now becomes the period's tariff": the last number set before, not the first set after. */
    private static void tariffAsItIsNow() {
        for (int item = 0; item < 6; item++) {
            UtilityRebiller x = new UtilityRebiller();
            Checks.setTariff(x, 1, 1, 1, 1, 1, 1);
            Checks.readPeriod(x, 1, 0, 500, 500, 500, 500, 500, 500, 500, 500);
            int[] perRate = {1500, 1000, 1500, 500, 2000, 0};
            x.tariff(item, 50);
            x.tariff(item, 2);
            x.close();
            x.tariff(item, 3);
            int want = 6500 + perRate[item];
            Checks.due("item " + item + ": lineAmount(1, 0)", x.lineAmount(1, 0), want);
            Checks.due("item " + item + ": amount(1, 0)", x.amount(1, 0), want);
            Checks.due("item " + item + ": amount(1, 1)", x.amount(1, 1), want + perRate[item]);
            Checks.due("item " + item + ", the other account: lineAmount(0, 0)", x.lineAmount(0, 0), item == 5 ? 2000 : 1000);
        }
    }

    /** "for good": over later tariffs and later closes, for each of the six periods. */
    private static void forGood() {
        UtilityRebiller x = new UtilityRebiller();
        for (int period = 0; period < 6; period++) {
            x.tariff(5, 99 - period);
            x.close();
            for (int n = 1; n < 4; n++) {
                x.tariff(5, n);
                for (int closed = 0; closed <= period; closed++) {
                    Checks.due("closed up to " + period + ": amount(1, " + closed + ")", x.amount(1, closed),
                            1000 * (99 - closed));
                }
                if (period < 5) {
                    Checks.due("open: amount(1, " + (period + 1) + ")", x.amount(1, period + 1), 1000 * n);
                }
            }
        }
    }

    /** "each account's ledger gets a line with the period and its amount": also if the amount is 0, and one line alone. */
    private static void aLineForEachAccount() {
        UtilityRebiller x = new UtilityRebiller();
        x.tariff(0, 1);
        Checks.readPeriod(x, 1, 2, 999, 0, 0);
        for (int period = 0; period < 3; period++) {
            x.close();
        }
        Checks.ledgerEnds("three closed", x, 0, 0, 0, 1, 0, 2, 0);
        Checks.ledgerEnds("three closed", x, 1, 0, 0, 1, 0, 2, 999);
        Checks.due("three closed: lines(0)", x.lines(0), 3);
        Checks.due("three closed: lines(1)", x.lines(1), 3);
    }
}
