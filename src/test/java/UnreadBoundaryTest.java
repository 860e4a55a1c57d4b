/** The boundary cases of promise 4, one method for each sentence. */
public final class UnreadBoundaryTest {
    public static void main(String[] args) {
        badAccount();
        badInterval();
        noRead();
        noReadAnyMore();
        firstAndLastInterval();
        lastReadOfAPeriod();
        sameAsForARead();
        Checks.end();
    }

    /** "BAD_ACCOUNT ... nothing changes then." */
    private static void badAccount() {
        for (int account : Edges.wrongAccounts()) {
            for (int interval : new int[] {0, 1, 47}) {
                Refusals.inEveryState("unread(" + account + ", " + interval + ")", UtilityRebiller.BAD_ACCOUNT,
                        x -> x.unread(account, interval));
            }
        }
    }

    /** "BAD_INTERVAL ... nothing changes then." */
    private static void badInterval() {
        for (int interval : Edges.wrongIntervals()) {
            for (int account = 0; account < 2; account++) {
                int whose = account;
                Refusals.inEveryState("unread(" + account + ", " + interval + ")", UtilityRebiller.BAD_INTERVAL,
                        x -> x.unread(whose, interval));
            }
        }
    }

    /** "there is no read for the interval: NO_READ; nothing changes then": a usage that is estimated is no read. */
    private static void noRead() {
        for (int interval : new int[] {4, 7, 8, 39, 46}) {
            for (int account = 0; account < 2; account++) {
                int whose = account;
                Refusals.inEveryState("unread(" + account + ", " + interval + ")", UtilityRebiller.NO_READ,
                        x -> x.unread(whose, interval));
            }
        }
        for (int interval : new int[] {0, 47}) {
            for (int account = 0; account < 2; account++) {
                int whose = account;
                Refusals.inState(Refusals.NEW, "unread(" + account + ", " + interval + ")", UtilityRebiller.NO_READ,
                        x -> x.unread(whose, interval));
            }
        }
        Refusals.inState(Refusals.ALL_CLOSED, "the other account alone has one: unread(0, 41)", UtilityRebiller.NO_READ,
                x -> x.unread(0, 41));
        Refusals.inState(Refusals.ALL_CLOSED, "the other account alone has one: unread(1, 40)", UtilityRebiller.NO_READ,
                x -> x.unread(1, 40));
    }

    /** "there is no read for the interval": one that has been taken back, also if it had been read twice or as 0. */
    private static void noReadAnyMore() {
        for (int account = 0; account < 2; account++) {
            for (int interval : new int[] {0, 47}) {
                UtilityRebiller x = new UtilityRebiller();
                String call = "unread(" + account + ", " + interval + ")";
                x.read(account, interval, 999);
                x.read(account, interval, 0);
                Checks.due(call, x.unread(account, interval), 0);
                int[] before = Checks.state(x);
                Checks.due(call + " again", x.unread(account, interval), UtilityRebiller.NO_READ);
                Checks.sameState(call + " again", x, before);
                x.read(account, interval, 1);
                Checks.due(call + " after a new read", x.unread(account, interval), 0);
                Checks.due(call + " and again", x.unread(account, interval), UtilityRebiller.NO_READ);
            }
        }
    }

    /** The last account and interval that are allowed, on both sides. */
    private static void firstAndLastInterval() {
        UtilityRebiller x = new UtilityRebiller();
        for (int account = 0; account < 2; account++) {
            x.read(account, 0, 10 + account);
            x.read(account, 47, 20 + account);
        }
        Checks.due("unread(0, 47)", x.unread(0, 47), 0);
        Checks.due("the next cell stays: usage(1, 0)", x.usage(1, 0), 11);
        Checks.due("unread(1, 0)", x.unread(1, 0), 0);
        Checks.due("usage(0, 47)", x.usage(0, 47), 0);
        Checks.due("usage(1, 0)", x.usage(1, 0), 0);
        Checks.due("unread(0, 0)", x.unread(0, 0), 0);
        Checks.due("unread(1, 47)", x.unread(1, 47), 0);
        Checks.due("usage(0, 0)", x.usage(0, 0), 0);
        Checks.due("usage(1, 47)", x.usage(1, 47), 0);
    }

    /** "Takes a read back": with the last one of a period its mean is gone too. */
    private static void lastReadOfAPeriod() {
        UtilityRebiller x = new UtilityRebiller();
        x.read(0, 42, 9);
        x.read(0, 45, 4);
        Checks.due("two reads: usage(0, 40)", x.usage(0, 40), 6);
        x.unread(0, 42);
        Checks.due("one read: usage(0, 40)", x.usage(0, 40), 4);
        Checks.due("one read: usage(0, 42)", x.usage(0, 42), 4);
        x.unread(0, 45);
        Checks.due("no read: usage(0, 40)", x.usage(0, 40), 0);
        Checks.due("no read: usage(0, 45)", x.usage(0, 45), 0);
    }

    /** "Else the same as for a read follows, and the call answers how many periods were billed anew": none to six. */
    private static void sameAsForARead() {
        for (int closed = 0; closed <= 6; closed++) {
            for (int from = 0; from < 6; from++) {
                UtilityRebiller x = new UtilityRebiller();
                x.tariff(2, 1);
                Checks.readPeriod(x, 1, from, 0, 0, 0, 0, 0, 0, 0, 30);
                for (int n = 0; n < closed; n++) {
                    x.close();
                }
                x.tariff(2, 99);
                int want = closed > from ? closed - from : 0;
                String when = closed + " closed, unread in period " + from;
                Checks.due(when, x.unread(1, from * 8 + 7), want);
                Checks.due(when + ": lines(1)", x.lines(1), closed + 2 * want);
                Checks.due(when + ": balance(1)", x.balance(1), 0);
                if (want > 0) {
                    Checks.ledgerEnds(when, x, 1, closed - 1, -30, closed - 1, 0);
                }
                if (want > 1) {
                    Checks.ledgerEnds(when, x, 1, closed - 2, -30, closed - 2, 0, closed - 1, -30, closed - 1, 0);
                }
            }
        }
        UtilityRebiller x = new UtilityRebiller();
        x.tariff(0, 1);
        x.read(0, 0, 30);
        x.close();
        Checks.due("the mean is what was read: read(0, 1, 30)", x.read(0, 1, 30), 0);
        Checks.due("the amount stays: unread(0, 0)", x.unread(0, 0), 0);
        Checks.due("the amount stays: lines(0)", x.lines(0), 1);
        Checks.due("the amount changes: unread(0, 1)", x.unread(0, 1), 1);
        Checks.ledgerEnds("the amount changes", x, 0, 0, 90, 0, -90, 0, 0);
    }
}
