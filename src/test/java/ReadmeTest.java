/** What README.md says of the calls: its example line by line, its table of refusals, and its remarks. */
public final class ReadmeTest {
    public static void main(String[] args) {
        example();
        refusals();
        zeroMayBeATrueAnswer();
        tariffWithAllClosed();
        Checks.end();
    }

    private static void example() {
        UtilityRebiller x = new UtilityRebiller();
        Checks.due("tariff(0, 2)", x.tariff(0, 2), 0);
        Checks.due("read(0, 0, 100)", x.read(0, 0, 100), 0);
        Checks.due("usage(0, 1)", x.usage(0, 1), 100);
        Checks.due("amount(0, 0)", x.amount(0, 0), 600);
        Checks.due("close()", x.close(), 0);
        Checks.due("lineAmount(0, 0)", x.lineAmount(0, 0), 600);
        Checks.due("read(0, 0, 90)", x.read(0, 0, 90), 1);
        Checks.due("lineAmount(0, 1)", x.lineAmount(0, 1), -600);
        Checks.due("linePeriod(0, 1)", x.linePeriod(0, 1), 0);
        Checks.due("lines(0)", x.lines(0), 3);
        Checks.due("balance(0)", x.balance(0), 540);
        Checks.due("unread(0, 0)", x.unread(0, 0), 1);
        Checks.ledgerEnds("taken back", x, 0, 0, 600, 0, -600, 0, 540, 0, -540, 0, 0);
        Checks.due("unread(0, 0) again", x.unread(0, 0), -7);
        Checks.due("read(2, 0, 90)", x.read(2, 0, 90), -1);
    }

    private static void refusals() {
        UtilityRebiller x = new UtilityRebiller();
        Checks.due("read(2, 0, 0)", x.read(2, 0, 0), -1);
        Checks.due("unread(2, 0)", x.unread(2, 0), -1);
        Checks.due("usage(2, 0)", x.usage(2, 0), -1);
        Checks.due("amount(2, 0)", x.amount(2, 0), -1);
        Checks.due("lines(2)", x.lines(2), -1);
        Checks.due("read(0, 48, 0)", x.read(0, 48, 0), -2);
        Checks.due("unread(0, 48)", x.unread(0, 48), -2);
        Checks.due("usage(0, 48)", x.usage(0, 48), -2);
        Checks.due("read(0, 0, 1000)", x.read(0, 0, 1000), -3);
        Checks.due("tariff(6, 0)", x.tariff(6, 0), -4);
        Checks.due("tariff(0, 100)", x.tariff(0, 100), -5);
        Checks.due("unread(0, 0)", x.unread(0, 0), -7);
        Checks.due("amount(0, 6)", x.amount(0, 6), -8);
        Checks.due("no line: linePeriod(0, 0)", x.linePeriod(0, 0), -8);
        Checks.due("no line: lineAmount(0, 0)", x.lineAmount(0, 0), 0);
        x.tariff(5, 1);
        for (int period = 0; period < 6; period++) {
            x.close();
        }
        Checks.due("all closed: close()", x.close(), -6);
        Checks.due("linePeriod(2, 0)", x.linePeriod(2, 0), -8);
        Checks.due("linePeriod(0, 8)", x.linePeriod(0, 8), -8);
        Checks.due("linePeriod(0, 6)", x.linePeriod(0, 6), -8);
        Checks.due("lineAmount(2, 0)", x.lineAmount(2, 0), 0);
        Checks.due("lineAmount(0, 8)", x.lineAmount(0, 8), 0);
        Checks.due("lineAmount(0, 6)", x.lineAmount(0, 6), 0);
        Checks.due("balance(2)", x.balance(2), 0);
    }

    private static void zeroMayBeATrueAnswer() {
        UtilityRebiller x = new UtilityRebiller();
        x.close();
        Checks.due("a balance of 0: balance(1)", x.balance(1), 0);
        Checks.due("of an account: lines(1)", x.lines(1), 1);
        Checks.due("of no account: lines(2)", x.lines(2), -1);
        Checks.due("a line of 0: lineAmount(1, 0)", x.lineAmount(1, 0), 0);
        Checks.due("that is there: linePeriod(1, 0)", x.linePeriod(1, 0), 0);
        Checks.due("that is not there: linePeriod(1, 1)", x.linePeriod(1, 1), -8);
    }

    private static void tariffWithAllClosed() {
        UtilityRebiller x = new UtilityRebiller();
        x.tariff(5, 3);
        for (int period = 0; period < 6; period++) {
            x.close();
        }
        Checks.due("all closed: tariff(5, 8)", x.tariff(5, 8), 3);
        Checks.due("all closed: tariff(5, 9)", x.tariff(5, 9), 8);
        for (int period = 0; period < 6; period++) {
            Checks.due("all closed: amount(0, " + period + ")", x.amount(0, period), 3000);
        }
    }
}
