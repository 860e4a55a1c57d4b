/** The boundary cases of promise 12: two or three arguments that are wrong at once, at every pair of edges. */
public final class OrderBoundaryTest {
    public static void main(String[] args) {
        tariffItemBeforeRate();
        unreadAccountBeforeInterval();
        unreadIntervalBeforeNoRead();
        usageAccountBeforeInterval();
        amountAccountBeforePeriod();
        linePeriodFollowsLineAmount();
        Checks.end();
    }

    /** "tariff ...: the answers below 0 are tested in the order in which they are named": BAD_ITEM, BAD_RATE. */
    private static void tariffItemBeforeRate() {
        for (int item : Edges.outside(0, 5)) {
            for (int rate : Edges.outside(0, 99)) {
                Refusals.inState(Refusals.HALF_CLOSED, "tariff(" + item + ", " + rate + ")", UtilityRebiller.BAD_ITEM,
                        x -> x.tariff(item, rate));
            }
        }
    }

    /** "unread": BAD_ACCOUNT before BAD_INTERVAL, and before NO_READ. */
    private static void unreadAccountBeforeInterval() {
        for (int account : Edges.wrongAccounts()) {
            for (int interval : Edges.wrongIntervals()) {
                Refusals.inState(Refusals.HALF_CLOSED, "unread(" + account + ", " + interval + ")",
                        UtilityRebiller.BAD_ACCOUNT, x -> x.unread(account, interval));
            }
            for (int interval : new int[] {0, 47}) {
                Refusals.inState(Refusals.NEW, "no read: unread(" + account + ", " + interval + ")",
                        UtilityRebiller.BAD_ACCOUNT, x -> x.unread(account, interval));
            }
        }
    }

    /** "unread": BAD_INTERVAL before NO_READ. */
    private static void unreadIntervalBeforeNoRead() {
        for (int interval : Edges.wrongIntervals()) {
            for (int account = 0; account < 2; account++) {
                int whose = account;
                Refusals.inState(Refusals.NEW, "no read: unread(" + account + ", " + interval + ")",
                        UtilityRebiller.BAD_INTERVAL, x -> x.unread(whose, interval));
            }
        }
    }

    /** "usage": BAD_ACCOUNT, BAD_INTERVAL. */
    private static void usageAccountBeforeInterval() {
        for (int account : Edges.wrongAccounts()) {
            for (int interval : Edges.wrongIntervals()) {
                Refusals.inState(Refusals.HALF_CLOSED, "usage(" + account + ", " + interval + ")",
                        UtilityRebiller.BAD_ACCOUNT, x -> x.usage(account, interval));
            }
        }
    }

    /** "amount": BAD_ACCOUNT, BAD_PERIOD. */
    private static void amountAccountBeforePeriod() {
        for (int account : Edges.wrongAccounts()) {
            for (int period : Edges.wrongPeriods()) {
                Refusals.inState(Refusals.HALF_CLOSED, "amount(" + account + ", " + period + ")",
                        UtilityRebiller.BAD_ACCOUNT, x -> x.amount(account, period));
            }
        }
    }

    /** "linePeriod answers BAD_PERIOD wherever lineAmount answers 0 because ...": both wrong at once too. */
    private static void linePeriodFollowsLineAmount() {
        for (int account : Edges.wrongAccounts()) {
            for (int back : Edges.wrongBacks()) {
                Refusals.inState(Refusals.ALL_CLOSED, "lineAmount(" + account + ", " + back + ")", 0,
                        x -> x.lineAmount(account, back));
                Refusals.inState(Refusals.ALL_CLOSED, "linePeriod(" + account + ", " + back + ")",
                        UtilityRebiller.BAD_PERIOD, x -> x.linePeriod(account, back));
            }
        }
        for (int state : new int[] {Refusals.NEW, Refusals.OPEN, Refusals.HALF_CLOSED, Refusals.ALL_CLOSED}) {
            UtilityRebiller x = Refusals.prepared(state);
            // no line of these states is 0, so that a 0 tells that there is no line
            for (int account = -1; account <= 2; account++) {
                for (int back = -1; back <= 8; back++) {
                    boolean none = x.lineAmount(account, back) == 0;
                    boolean bad = x.linePeriod(account, back) == UtilityRebiller.BAD_PERIOD;
                    Checks.due("state " + state + ": no line at (" + account + ", " + back + ")", bad ? 1 : 0, none ? 1 : 0);
                }
            }
        }
    }
}
