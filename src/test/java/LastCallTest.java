/** "An object is used for at most 512 calls after it has been made": the 512th is still answered as the document says. */
public final class LastCallTest {
    private static final int CALLS = 512;

    public static void main(String[] args) {
        onlyCloses();
        onlyRefusedCalls();
        mostLines();
        everyMethodAsTheLast();
        Checks.end();
    }

    private static void onlyCloses() {
        UtilityRebiller x = new UtilityRebiller();
        for (int n = 0; n < CALLS; n++) {
            Checks.due("close() number " + n, x.close(), n < 6 ? n : UtilityRebiller.ALL_CLOSED);
        }
    }

    private static void onlyRefusedCalls() {
        UtilityRebiller x = new UtilityRebiller();
        for (int n = 0; n < CALLS - 1; n++) {
            Checks.due("unread(1, 47) number " + n, x.unread(1, 47), UtilityRebiller.NO_READ);
        }
        Checks.due("the 512th call, read(1, 47, 999)", x.read(1, 47, 999), 0);
    }

    /** The most lines there can be: a tariff, six closes, and reads that each bill six periods anew, up to the 511th call. */
    private static void mostLines() {
        int reads = CALLS - 8;
        for (int last = 0; last < 4; last++) {
            UtilityRebiller x = new UtilityRebiller();
            x.tariff(0, 99);
            for (int period = 0; period < 6; period++) {
                x.close();
            }
            for (int n = 0; n < reads; n++) {
                Checks.due("read number " + n, x.read(0, 0, n % 2 == 0 ? 999 : 0), 6);
            }
            // the last read but one, of 999, was taken back by the last one, of 0
            if (last == 0) {
                Checks.due("the 512th call, lines(0)", x.lines(0), 6 + 12 * reads);
            } else if (last == 1) {
                Checks.due("the 512th call, balance(0)", x.balance(0), 0);
            } else if (last == 2) {
                Checks.due("the 512th call, lineAmount(0, 7)", x.lineAmount(0, 7), -98901);
            } else {
                Checks.due("the 512th call, linePeriod(0, 7)", x.linePeriod(0, 7), 2);
            }
        }
    }

    /** Each method as the 512th call, after 511 calls of a run, held against the model. */
    private static void everyMethodAsTheLast() {
        for (int run = 0; run < 200; run++) {
            Calls calls = new Calls(1000 + run);
            UtilityRebiller x = new UtilityRebiller();
            Model model = new Model();
            for (int n = 0; n < CALLS; n++) {
                calls.next();
                if (n == CALLS - 1) {
                    calls.method = run % 10;
                }
                int want = model.call(calls.method, calls.a, calls.b, calls.c);
                Checks.due("run " + run + ", call " + (n + 1) + ": " + calls.text(), calls.answerOf(x), want);
            }
        }
    }
}
