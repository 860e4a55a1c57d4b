/** Runs of calls that are the same each time: the numbers come from a seed, not from a random source. */
final class Calls {
    static final int FIRST_QUERY = 4;
    private static final String[] NAMES = {
        "tariff", "read", "unread", "close", "usage", "amount", "balance", "lines", "lineAmount", "linePeriod",
    };
    private static final int[] FAR = {Integer.MIN_VALUE, Integer.MIN_VALUE + 1, -1000, 1000, 4096, Integer.MAX_VALUE};

    private long seed;

    int method;
    int a;
    int b;
    int c;

    Calls(long seed) {
        this.seed = seed * 0x9E3779B97F4A7C15L + 12345;
    }

    int below(int bound) {
        seed = seed * 6364136223846793005L + 1442695040888963407L;
        return (int) ((seed >>> 33) % bound);
    }

    /** Reads come most often; one argument in some thirty lies just outside its range or far away. */
    void next() {
        int kind = below(40);
        if (kind < 14) {
            method = 1;
        } else if (kind < 19) {
            method = 2;
        } else if (kind < 22) {
            method = 0;
        } else if (kind < 23) {
            method = 3;
        } else {
            method = FIRST_QUERY + below(6);
        }
        boolean tariff = method == 0;
        boolean byInterval = method == 1 || method == 2 || method == 4;
        a = argument(tariff ? 5 : 1);
        b = argument(tariff ? 99 : byInterval ? 47 : method == 5 ? 5 : 7);
        c = below(3) == 0 ? 500 : argument(999);
    }

    private int argument(int greatest) {
        int kind = below(100);
        if (kind == 0) {
            return -1;
        }
        if (kind == 1) {
            return greatest + 1;
        }
        if (kind == 2) {
            return FAR[below(FAR.length)];
        }
        return below(greatest + 1);
    }

    int answerOf(UtilityRebiller x) {
        return switch (method) {
            case 0 -> x.tariff(a, b);
            case 1 -> x.read(a, b, c);
            case 2 -> x.unread(a, b);
            case 3 -> x.close();
            case 4 -> x.usage(a, b);
            case 5 -> x.amount(a, b);
            case 6 -> x.balance(a);
            case 7 -> x.lines(a);
            case 8 -> x.lineAmount(a, b);
            default -> x.linePeriod(a, b);
        };
    }

    String text() {
        return NAMES[method] + "(" + a + ", " + b + ", " + c + ")";
    }
}
