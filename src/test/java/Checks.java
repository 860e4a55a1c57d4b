import java.util.Arrays;

/** Counts the answers that are not as due, and ends the test with exit code 1 if there was one. */
final class Checks {
    private static final int[] WRONG_ACCOUNTS = {-1, 2, 3, 48, Integer.MIN_VALUE, Integer.MAX_VALUE};
    private static final int[] WRONG_INTERVALS = {-1, 48, 49, 96, Integer.MIN_VALUE, Integer.MAX_VALUE};

    private static int wrong = 0;

    private Checks() {
    }

    static void due(String call, long got, long want) {
        if (got != want) {
            wrong++;
            System.out.println(call + " answered " + got + ", due is " + want);
        }
    }

    static void end() {
        if (wrong != 0) {
            System.out.println(wrong + " answers are not as due");
            System.exit(1);
        }
    }

    static int[] wrongAccounts() {
        return WRONG_ACCOUNTS.clone();
    }

    static int[] wrongIntervals() {
        return WRONG_INTERVALS.clone();
    }

    static void setTariff(UtilityRebiller x, int... rates) {
        for (int item = 0; item < rates.length; item++) {
            x.tariff(item, rates[item]);
        }
    }

    static void readPeriod(UtilityRebiller x, int account, int period, int... reads) {
        for (int slot = 0; slot < reads.length; slot++) {
            x.read(account, period * 8 + slot, reads[slot]);
        }
    }

    /** All that the calls that change nothing tell of an object, in 144 calls. */
    static int[] state(UtilityRebiller x) {
        int[] told = new int[144];
        int next = 0;
        for (int account = 0; account < 2; account++) {
            for (int interval = 0; interval < 48; interval++) {
                told[next++] = x.usage(account, interval);
            }
            for (int period = 0; period < 6; period++) {
                told[next++] = x.amount(account, period);
            }
            told[next++] = x.balance(account);
            told[next++] = x.lines(account);
            for (int back = 0; back < 8; back++) {
                told[next++] = x.lineAmount(account, back);
                told[next++] = x.linePeriod(account, back);
            }
        }
        return told;
    }

    static void sameState(String after, UtilityRebiller x, int[] before) {
        int[] now = state(x);
        if (!Arrays.equals(now, before)) {
            wrong++;
            System.out.println(after + " changed the state\n  from " + Arrays.toString(before)
                    + "\n  to   " + Arrays.toString(now));
        }
    }

    /** The ledger's last lines, the oldest first, as pairs of a period and an amount. */
    static void ledgerEnds(String when, UtilityRebiller x, int account, int... pairs) {
        int count = pairs.length / 2;
        for (int line = 0; line < count; line++) {
            int back = count - 1 - line;
            due(when + ": linePeriod(" + account + ", " + back + ")", x.linePeriod(account, back), pairs[2 * line]);
            due(when + ": lineAmount(" + account + ", " + back + ")", x.lineAmount(account, back), pairs[2 * line + 1]);
        }
    }
}
