/** LANGUAGE.md, rule 7: no call ever throws, also long after the 512th, where the answers are free. */
public final class NeverFailsTest {
    private static final int[] ANY = {
        Integer.MIN_VALUE, -49, -8, -1, 0, 1, 2, 5, 6, 7, 8, 47, 48, 99, 100, 999, 1000, Integer.MAX_VALUE,
    };

    public static void main(String[] args) {
        anyArguments();
        manyCalls();
        Checks.end();
    }

    private static void anyArguments() {
        Calls calls = new Calls(1);
        UtilityRebiller x = new UtilityRebiller();
        for (int method = 0; method < 10; method++) {
            for (int a : ANY) {
                for (int b : ANY) {
                    calls.method = method;
                    calls.a = a;
                    calls.b = b;
                    calls.c = ANY[calls.below(ANY.length)];
                    calls.answerOf(x);
                }
            }
        }
    }

    private static void manyCalls() {
        Calls calls = new Calls(2);
        UtilityRebiller x = new UtilityRebiller();
        for (int n = 0; n < 1_000_000; n++) {
            calls.next();
            calls.answerOf(x);
        }
    }
}
