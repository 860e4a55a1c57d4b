/** Promises 8 to 11: balance, lines, lineAmount and linePeriod. */
public final class LedgerTest {
    public static void main(String[] args) {
        balance();
        lines();
        linesBack();
        linesOfAmountZero();
        noMoreThanEightBack();
        longLedger();
        wrongAccount();
        wrongBack();
        Checks.end();
    }

    private static void balance() {
        UtilityRebiller x = withTwoClosed();
        Checks.due("balance(0)", x.balance(0), 3000);
        Checks.due("balance(1)", x.balance(1), 3000);
        x.tariff(5, 90);
        Checks.due("an open period is no line: balance(0)", x.balance(0), 3000);
        x.read(1, 0, 200);
        Checks.due("billed anew: balance(1)", x.balance(1), 3600);
        Checks.due("billed anew: balance(0)", x.balance(0), 3000);
        x.unread(1, 0);
        Checks.due("taken back: balance(1)", x.balance(1), 3000);
    }

    private static void lines() {
        UtilityRebiller x = withTwoClosed();
        Checks.due("lines(0)", x.lines(0), 2);
        Checks.due("lines(1)", x.lines(1), 2);
        x.read(1, 0, 200);
        Checks.due("billed anew: lines(1)", x.lines(1), 4);
        Checks.due("billed anew: lines(0)", x.lines(0), 2);
        x.read(1, 47, 1);
        Checks.due("nothing to bill: lines(1)", x.lines(1), 4);
    }

    private static void linesBack() {
        UtilityRebiller x = withTwoClosed();
        Checks.ledgerEnds("two closed", x, 0, 0, 1000, 1, 2000);
        Checks.due("lineAmount(0, 2)", x.lineAmount(0, 2), 0);
        Checks.due("linePeriod(0, 2)", x.linePeriod(0, 2), UtilityRebiller.BAD_PERIOD);
        x.read(1, 0, 300);
        Checks.ledgerEnds("billed anew", x, 1, 0, 1000, 1, 2000, 0, -1000, 0, 2400);
        Checks.due("lineAmount(1, 4)", x.lineAmount(1, 4), 0);
        Checks.due("linePeriod(1, 4)", x.linePeriod(1, 4), UtilityRebiller.BAD_PERIOD);
        Checks.ledgerEnds("the other account", x, 0, 0, 1000, 1, 2000);
    }

    private static void linesOfAmountZero() {
        UtilityRebiller x = new UtilityRebiller();
        x.close();
        x.close();
        Checks.due("lineAmount(0, 0)", x.lineAmount(0, 0), 0);
        Checks.due("linePeriod(0, 0)", x.linePeriod(0, 0), 1);
        Checks.due("linePeriod(0, 1)", x.linePeriod(0, 1), 0);
        Checks.due("linePeriod(0, 2)", x.linePeriod(0, 2), UtilityRebiller.BAD_PERIOD);
    }

    private static void noMoreThanEightBack() {
        UtilityRebiller x = new UtilityRebiller();
        x.tariff(0, 1);
        Checks.readPeriod(x, 0, 0, 1, 0, 0, 0, 0, 0, 0, 0);
        for (int period = 0; period < 6; period++) {
            x.close();
        }
        Checks.ledgerEnds("six lines", x, 0, 0, 1, 1, 1, 2, 1, 3, 1, 4, 1, 5, 1);
        Checks.due("six lines: linePeriod(0, 6)", x.linePeriod(0, 6), UtilityRebiller.BAD_PERIOD);
        x.read(0, 40, 9);
        Checks.ledgerEnds("eight lines", x, 0, 0, 1, 1, 1, 2, 1, 3, 1, 4, 1, 5, 1, 5, -1, 5, 9);
        Checks.due("eight lines: lineAmount(0, 8)", x.lineAmount(0, 8), 0);
        x.read(0, 40, 3);
        Checks.ledgerEnds("ten lines", x, 0, 2, 1, 3, 1, 4, 1, 5, 1, 5, -1, 5, 9, 5, -9, 5, 3);
        Checks.due("ten lines: lineAmount(0, 8)", x.lineAmount(0, 8), 0);
        Checks.due("ten lines: linePeriod(0, 8)", x.linePeriod(0, 8), UtilityRebiller.BAD_PERIOD);
        Checks.due("ten lines: linePeriod(0, 9)", x.linePeriod(0, 9), UtilityRebiller.BAD_PERIOD);
        Checks.due("ten lines: lines(0)", x.lines(0), 10);
        Checks.due("ten lines: balance(0)", x.balance(0), 8);
        Checks.ledgerEnds("the other account", x, 1, 0, 0, 1, 0, 2, 0, 3, 0, 4, 0, 5, 0);
        Checks.due("the other account: linePeriod(1, 6)", x.linePeriod(1, 6), UtilityRebiller.BAD_PERIOD);
    }

    /** Close to the most lines that an object can have in 512 calls: 9 calls prepare, 495 read, 7 look. */
    private static void longLedger() {
        UtilityRebiller x = new UtilityRebiller();
        Checks.setTariff(x, 99, 99, 99);
        for (int period = 0; period < 6; period++) {
            x.close();
        }
        // a read of slot 0 fills the whole of period 0 as its mean, and slot 0 alone of the periods after it
        for (int n = 0; n < 495; n++) {
            Checks.due("read number " + n, x.read(1, 0, n % 2 == 0 ? 999 : 998), 6);
        }
        Checks.due("long: lines(1)", x.lines(1), 6 + 12 * 495);
        Checks.due("long: balance(1)", x.balance(1), 999 * 99 * (8 + 5));
        Checks.due("long: lines(0)", x.lines(0), 6);
        Checks.ledgerEnds("long", x, 1, 5, -998 * 99, 5, 999 * 99);
    }

    private static void wrongAccount() {
        UtilityRebiller x = withTwoClosed();
        for (int account : Checks.wrongAccounts()) {
            Checks.due("balance(" + account + ")", x.balance(account), 0);
            Checks.due("lines(" + account + ")", x.lines(account), UtilityRebiller.BAD_ACCOUNT);
            Checks.due("lineAmount(" + account + ", 0)", x.lineAmount(account, 0), 0);
            Checks.due("linePeriod(" + account + ", 0)", x.linePeriod(account, 0), UtilityRebiller.BAD_PERIOD);
            Checks.due("linePeriod(" + account + ", -1)", x.linePeriod(account, -1), UtilityRebiller.BAD_PERIOD);
        }
    }

    private static void wrongBack() {
        UtilityRebiller x = withTwoClosed();
        for (int n = 0; n < 10; n++) {
            x.read(0, 0, 500 + n);
            x.read(1, 0, 500 + n);
        }
        int[] wrong = {-1, -2, -8, 8, 9, 16, Integer.MIN_VALUE, Integer.MAX_VALUE};
        for (int back : wrong) {
            for (int account = 0; account < 2; account++) {
                Checks.due("lineAmount(" + account + ", " + back + ")", x.lineAmount(account, back), 0);
                Checks.due("linePeriod(" + account + ", " + back + ")", x.linePeriod(account, back),
                        UtilityRebiller.BAD_PERIOD);
            }
        }
    }

    private static UtilityRebiller withTwoClosed() {
        UtilityRebiller x = new UtilityRebiller();
        Checks.setTariff(x, 1, 1, 1, 0, 0, 1);
        x.close();
        x.tariff(5, 2);
        x.close();
        return x;
    }
}
