/** All promises together: many runs of 512 calls, each answer held against the model. */
public final class ModelTest {
    private static final int RUNS = 2000;
    private static final int CALLS = 512;

    public static void main(String[] args) {
        for (int run = 0; run < RUNS; run++) {
            if (!oneRun(run)) {
                break;
            }
        }
        Checks.end();
    }

    private static boolean oneRun(int run) {
        Calls calls = new Calls(run);
        UtilityRebiller x = new UtilityRebiller();
        Model model = new Model();
        for (int n = 0; n < CALLS; n++) {
            calls.next();
            int want = model.call(calls.method, calls.a, calls.b, calls.c);
            int got = calls.answerOf(x);
            Checks.due("run " + run + ", call " + n + ": " + calls.text(), got, want);
            if (got != want) {
                return false;
            }
        }
        return true;
    }
}
