/** Promise 6 and the term USAGE. */
public final class UsageTest {
    public static void main(String[] args) {
        ownRead();
        latestEarlierPeriod();
        earlierPeriodGoesBeforeTheMean();
        meanOfTheReads();
        estimatesAreNotPartOfTheMean();
        laterReadsDoNotCount();
        closingChangesNoUsage();
        wrongArguments();
        Checks.end();
    }

    private static void ownRead() {
        UtilityRebiller x = new UtilityRebiller();
        x.read(0, 2, 7);
        x.read(0, 10, 0);
        x.read(0, 11, 900);
        Checks.due("its own read: usage(0, 2)", x.usage(0, 2), 7);
        Checks.due("its own read of 0: usage(0, 10)", x.usage(0, 10), 0);
        Checks.due("an earlier read of 0: usage(0, 18)", x.usage(0, 18), 0);
        Checks.due("the other account: usage(1, 2)", x.usage(1, 2), 0);
    }

    private static void latestEarlierPeriod() {
        UtilityRebiller x = new UtilityRebiller();
        x.read(1, 7, 11);
        x.read(1, 23, 33);
        int[] due = {11, 11, 33, 33, 33, 33};
        for (int period = 0; period < 6; period++) {
            int interval = period * 8 + 7;
            Checks.due("usage(1, " + interval + ")", x.usage(1, interval), due[period]);
        }
        x.read(1, 15, 22);
        Checks.due("a read between: usage(1, 15)", x.usage(1, 15), 22);
        Checks.due("a read between: usage(1, 31)", x.usage(1, 31), 33);
        x.unread(1, 23);
        Checks.due("the latest taken back: usage(1, 47)", x.usage(1, 47), 22);
    }

    private static void earlierPeriodGoesBeforeTheMean() {
        UtilityRebiller x = new UtilityRebiller();
        x.read(0, 0, 5);
        x.read(0, 41, 100);
        Checks.due("earlier read in the slot: usage(0, 40)", x.usage(0, 40), 5);
        Checks.due("no earlier read in the slot: usage(0, 42)", x.usage(0, 42), 100);
        Checks.due("no read in the period: usage(0, 34)", x.usage(0, 34), 0);
    }

    private static void meanOfTheReads() {
        UtilityRebiller x = new UtilityRebiller();
        x.read(0, 16, 1);
        x.read(0, 23, 2);
        Checks.due("mean of 1 and 2: usage(0, 18)", x.usage(0, 18), 1);
        x.read(0, 20, 0);
        x.read(0, 21, 0);
        Checks.due("mean of 1, 0, 0 and 2: usage(0, 18)", x.usage(0, 18), 0);
        x.read(0, 22, 999);
        Checks.due("mean of five reads: usage(0, 17)", x.usage(0, 17), 200);
        x.read(0, 17, 999);
        x.read(0, 18, 999);
        Checks.due("mean of seven reads: usage(0, 19)", x.usage(0, 19), 428);
        Checks.due("the period before: usage(0, 11)", x.usage(0, 11), 0);
        Checks.due("the period after: usage(0, 27)", x.usage(0, 27), 0);
        Checks.due("the other account: usage(1, 19)", x.usage(1, 19), 0);
    }

    private static void estimatesAreNotPartOfTheMean() {
        UtilityRebiller x = new UtilityRebiller();
        x.read(0, 0, 900);
        x.read(0, 9, 10);
        Checks.due("usage(0, 8)", x.usage(0, 8), 900);
        Checks.due("usage(0, 10)", x.usage(0, 10), 10);
        Checks.due("a mean is not handed on: usage(0, 18)", x.usage(0, 18), 0);
    }

    private static void laterReadsDoNotCount() {
        UtilityRebiller x = new UtilityRebiller();
        x.read(0, 46, 300);
        for (int interval = 0; interval < 40; interval++) {
            Checks.due("usage(0, " + interval + ")", x.usage(0, interval), 0);
        }
        for (int interval = 40; interval < 48; interval++) {
            Checks.due("usage(0, " + interval + ")", x.usage(0, interval), 300);
        }
    }

    private static void closingChangesNoUsage() {
        UtilityRebiller x = new UtilityRebiller();
        x.read(0, 3, 40);
        x.close();
        x.close();
        Checks.due("closed: usage(0, 3)", x.usage(0, 3), 40);
        Checks.due("closed: usage(0, 11)", x.usage(0, 11), 40);
        x.read(0, 3, 41);
        Checks.due("read after closing: usage(0, 11)", x.usage(0, 11), 41);
    }

    private static void wrongArguments() {
        UtilityRebiller x = new UtilityRebiller();
        for (int account : Checks.wrongAccounts()) {
            Checks.due("usage(" + account + ", 0)", x.usage(account, 0), UtilityRebiller.BAD_ACCOUNT);
            Checks.due("usage(" + account + ", -1)", x.usage(account, -1), UtilityRebiller.BAD_ACCOUNT);
        }
        for (int interval : Checks.wrongIntervals()) {
            Checks.due("usage(0, " + interval + ")", x.usage(0, interval), UtilityRebiller.BAD_INTERVAL);
            Checks.due("usage(1, " + interval + ")", x.usage(1, interval), UtilityRebiller.BAD_INTERVAL);
        }
    }
}
