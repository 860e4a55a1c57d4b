/** 'The calls below change nothing that any call answers': an object that is asked much answers as one that is not. */
public final class QueriesTest {
    private static final int RUNS = 200;
    private static final int CALLS = 180;

    public static void main(String[] args) {
        for (int run = 0; run < RUNS; run++) {
            oneRun(run);
        }
        Checks.end();
    }

    private static void oneRun(int run) {
        Calls calls = new Calls(run);
        UtilityRebiller asked = new UtilityRebiller();
        UtilityRebiller left = new UtilityRebiller();
        for (int n = 0; n < CALLS; n++) {
            calls.next();
            int answer = calls.answerOf(asked);
            if (calls.method >= Calls.FIRST_QUERY) {
                Checks.due("run " + run + ", asked twice: " + calls.text(), calls.answerOf(asked), answer);
            } else {
                Checks.due("run " + run + ", asked between: " + calls.text(), answer, calls.answerOf(left));
            }
        }
        Checks.sameState("run " + run + ", asking", asked, Checks.state(left));
    }
}
