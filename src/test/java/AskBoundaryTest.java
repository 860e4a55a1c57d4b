/** The boundary cases of promises 6 and 7, one method for each sentence. */
public final class AskBoundaryTest {
    public static void main(String[] args) {
        usageBadAccount();
        usageBadInterval();
        usageAtTheEnds();
        amountBadAccount();
        amountBadPeriod();
        amountAtTheEnds();
        ownTariffIfClosed();
        Checks.end();
    }

    /** Promise 6: "BAD_ACCOUNT". */
    private static void usageBadAccount() {
        for (int account : Edges.wrongAccounts()) {
            for (int interval : new int[] {0, 47}) {
                Refusals.inEveryState("usage(" + account + ", " + interval + ")", UtilityRebiller.BAD_ACCOUNT,
                        x -> x.usage(account, interval));
            }
        }
    }

    /** Promise 6: "BAD_INTERVAL". */
    private static void usageBadInterval() {
        for (int interval : Edges.wrongIntervals()) {
            for (int account = 0; account < 2; account++) {
                int whose = account;
                Refusals.inEveryState("usage(" + account + ", " + interval + ")", UtilityRebiller.BAD_INTERVAL,
                        x -> x.usage(whose, interval));
            }
        }
    }

    /** Promise 6: the first and the last account and interval, with the least and the greatest usage. */
    private static void usageAtTheEnds() {
        for (int account = 0; account < 2; account++) {
            for (int interval : new int[] {0, 47}) {
                for (int usage : new int[] {0, 999}) {
                    UtilityRebiller x = new UtilityRebiller();
                    x.read(account, interval, usage);
                    Checks.due("usage(" + account + ", " + interval + ")", x.usage(account, interval), usage);
                    Checks.due("usage(" + (1 - account) + ", " + interval + ")", x.usage(1 - account, interval), 0);
                }
            }
        }
    }

    /** Promise 7: "BAD_ACCOUNT". */
    private static void amountBadAccount() {
        for (int account : Edges.wrongAccounts()) {
            for (int period : new int[] {0, 5}) {
                Refusals.inEveryState("amount(" + account + ", " + period + ")", UtilityRebiller.BAD_ACCOUNT,
                        x -> x.amount(account, period));
            }
        }
    }

    /** Promise 7: "period not in 0 to 5: BAD_PERIOD." */
    private static void amountBadPeriod() {
        for (int period : Edges.wrongPeriods()) {
            for (int account = 0; account < 2; account++) {
                int whose = account;
                Refusals.inEveryState("amount(" + account + ", " + period + ")", UtilityRebiller.BAD_PERIOD,
                        x -> x.amount(whose, period));
            }
        }
    }

    /** Promise 7: the first and the last account and period. */
    private static void amountAtTheEnds() {
        for (int account = 0; account < 2; account++) {
            for (int period : new int[] {0, 5}) {
                UtilityRebiller x = new UtilityRebiller();
                x.tariff(1, 2);
                Checks.readPeriod(x, account, period, 0, 0, 0, 7, 8, 0, 0, 0);
                Checks.due("amount(" + account + ", " + period + ")", x.amount(account, period), 30);
                Checks.due("amount(" + (1 - account) + ", " + period + ")", x.amount(1 - account, period), 0);
            }
        }
    }

    /** Promise 7: "under the period's own tariff if it is closed, else under the tariff as it is now." */
    private static void ownTariffIfClosed() {
        for (int closed = 0; closed <= 6; closed++) {
            UtilityRebiller x = new UtilityRebiller();
            for (int period = 0; period < closed; period++) {
                x.tariff(5, 10 + period);
                x.close();
            }
            x.tariff(5, 77);
            for (int period = 0; period < 6; period++) {
                int want = period < closed ? 10000 + 1000 * period : 77000;
                Checks.due(closed + " closed: amount(0, " + period + ")", x.amount(0, period), want);
                Checks.due(closed + " closed: amount(1, " + period + ")", x.amount(1, period), want);
            }
        }
    }
}
