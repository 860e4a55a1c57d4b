import java.util.Arrays;

/** Holds that a call answers what is due and changes nothing, in several states of an object. */
final class Refusals {
    /** One call on an object. */
    interface Call {
        int on(UtilityRebiller x);
    }

    static final int NEW = 0;
    static final int OPEN = 1;
    static final int HALF_CLOSED = 2;
    static final int ALL_CLOSED = 3;
    private static final int STATES = 4;

    private static final int TOLD = 144;
    private static final int ITEMS = 6;
    private static final int READS = 96;
    private static final int CLOSES = 7;

    private Refusals() {
    }

    static void inEveryState(String text, int want, Call call) {
        for (int state = 0; state < STATES; state++) {
            inState(state, text, want, call);
        }
    }

    static void inState(int state, String text, int want, Call call) {
        UtilityRebiller x = prepared(state);
        Checks.due("state " + state + ": " + text, call.on(x), want);
        int[] after = everything(x);
        int[] without = everything(prepared(state));
        Checks.due("state " + state + ": first change after " + text, Arrays.mismatch(after, without), -1);
    }

    /** An object that has had at most 40 calls, so that 75 are left beside the 397 of everything. */
    static UtilityRebiller prepared(int state) {
        UtilityRebiller x = new UtilityRebiller();
        if (state == NEW) {
            return x;
        }
        Checks.setTariff(x, 11, 12, 13, 14, 15, 16);
        for (int account = 0; account < 2; account++) {
            Checks.readPeriod(x, account, 0, 300, 310, 320, 330 + account);
            x.read(account, 13, 700);
            x.read(account, 40 + account, 0);
            x.read(account, 47, 999);
        }
        int closed = state == OPEN ? 0 : state == HALF_CLOSED ? 3 : 6;
        for (int period = 0; period < closed; period++) {
            x.tariff(period, 20 + period);
            x.close();
        }
        x.tariff(5, 98);
        x.read(0, 0, 301);
        x.read(1, 0, 302);
        x.read(1, 5, 40);
        return x;
    }

    /** All that the calls tell of an object, also the ones that end its life: 144 + 6 + 96 + 7 + 144 calls. */
    private static int[] everything(UtilityRebiller x) {
        int[] told = Arrays.copyOf(Checks.state(x), TOLD + ITEMS + READS + CLOSES + TOLD);
        int next = TOLD;
        for (int item = 0; item < ITEMS; item++) {
            told[next++] = x.tariff(item, 50 + item);
        }
        for (int interval = 47; interval >= 0; interval--) {
            told[next++] = x.unread(0, interval);
            told[next++] = x.unread(1, interval);
        }
        for (int n = 0; n < CLOSES; n++) {
            told[next++] = x.close();
        }
        System.arraycopy(Checks.state(x), 0, told, next, TOLD);
        return told;
    }
}
