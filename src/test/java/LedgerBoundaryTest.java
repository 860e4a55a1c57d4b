/** The boundary cases of promises 8 to 11, one method for each sentence. */
public final class LedgerBoundaryTest {
    public static void main(String[] args) {
        balanceOfAWrongAccount();
        balanceIsTheSumOfAllLines();
        linesOfAWrongAccount();
        linesFromZeroOn();
        lineAmountOfAWrongAccount();
        lineAmountBackNotIn0To7();
        lineAmountNoSuchLine();
        linePeriodOfAWrongAccount();
        linePeriodBackNotIn0To7();
        linePeriodNoSuchLine();
        aLineOfAmountZero();
        manyLines();
        Checks.end();
    }

    /** Promise 8: "0 if the account is not 0 or 1." */
    private static void balanceOfAWrongAccount() {
        for (int account : Edges.wrongAccounts()) {
            Refusals.inEveryState("balance(" + account + ")", 0, x -> x.balance(account));
        }
        UtilityRebiller x = withLines(3);
        Checks.due("balance(0)", x.balance(0), 3000);
        Checks.due("balance(1)", x.balance(1), 3000);
    }

    /** Promise 8: "The sum of the account's ledger lines": of an empty ledger, and of more lines than can be asked for. */
    private static void balanceIsTheSumOfAllLines() {
        UtilityRebiller empty = new UtilityRebiller();
        Checks.due("no line: balance(0)", empty.balance(0), 0);
        Checks.due("no line: balance(1)", empty.balance(1), 0);
        for (int lines = 1; lines <= 20; lines++) {
            UtilityRebiller x = withLines(lines);
            int closed = closedBefore(lines);
            int want = 1000 * closed + 8 * ((lines - closed) / 2);
            Checks.due(lines + " lines: balance(0)", x.balance(0), want);
            Checks.due(lines + " lines: balance(1)", x.balance(1), want);
        }
    }

    /** Promise 9: "BAD_ACCOUNT." */
    private static void linesOfAWrongAccount() {
        for (int account : Edges.wrongAccounts()) {
            Refusals.inEveryState("lines(" + account + ")", UtilityRebiller.BAD_ACCOUNT, x -> x.lines(account));
        }
    }

    /** Promise 9: "How many lines the account's ledger has": from none on, beyond the eight that can be asked for. */
    private static void linesFromZeroOn() {
        for (int lines = 0; lines <= 20; lines++) {
            UtilityRebiller x = withLines(lines);
            Checks.due("lines(0)", x.lines(0), lines);
            Checks.due("lines(1)", x.lines(1), lines);
        }
        UtilityRebiller x = withLines(5);
        x.read(1, 0, 999);
        Checks.due("one account alone: lines(1)", x.lines(1), 15);
        Checks.due("one account alone: lines(0)", x.lines(0), 5);
    }

    /** Promise 10: "0 if the account is not 0 or 1". */
    private static void lineAmountOfAWrongAccount() {
        for (int account : Edges.wrongAccounts()) {
            for (int back : new int[] {0, 7}) {
                Refusals.inEveryState("lineAmount(" + account + ", " + back + ")", 0, x -> x.lineAmount(account, back));
            }
        }
        UtilityRebiller x = withLines(1);
        Checks.due("lineAmount(0, 0)", x.lineAmount(0, 0), 1000);
        Checks.due("lineAmount(1, 0)", x.lineAmount(1, 0), 1000);
    }

    /** Promise 10: "back is not in 0 to 7": with lines enough for more. */
    private static void lineAmountBackNotIn0To7() {
        for (int back : Edges.wrongBacks()) {
            for (int account = 0; account < 2; account++) {
                int whose = account;
                Refusals.inEveryState("lineAmount(" + account + ", " + back + ")", 0, x -> x.lineAmount(whose, back));
                Checks.due("twenty lines: lineAmount(" + account + ", " + back + ")",
                        withLines(20).lineAmount(account, back), 0);
            }
        }
        UtilityRebiller x = withLines(20);
        for (int back = 8; back <= 21; back++) {
            Checks.due("twenty lines: lineAmount(0, " + back + ")", x.lineAmount(0, back), 0);
            Checks.due("twenty lines: lineAmount(1, " + -back + ")", x.lineAmount(1, -back), 0);
        }
        for (int account = 0; account < 2; account++) {
            Checks.due("twenty lines: lineAmount(" + account + ", 0)", x.lineAmount(account, 0), 1000 + 8 * 7);
            Checks.due("twenty lines: lineAmount(" + account + ", 7)", x.lineAmount(account, 7), -(1000 + 8 * 3));
        }
    }

    /** Promise 10: "or there is no such line": the oldest line and the one before it, for none to nine lines. */
    private static void lineAmountNoSuchLine() {
        for (int lines = 0; lines <= 9; lines++) {
            UtilityRebiller x = withLines(lines);
            for (int account = 0; account < 2; account++) {
                for (int back = 0; back < 8; back++) {
                    boolean none = x.lineAmount(account, back) == 0;
                    Checks.due(lines + " lines: none at lineAmount(" + account + ", " + back + ")", none ? 1 : 0,
                            back >= lines ? 1 : 0);
                }
            }
            if (lines > 0 && lines <= 8) {
                Checks.due(lines + " lines: the oldest", x.lineAmount(1, lines - 1), 1000);
            }
        }
        UtilityRebiller x = withLines(5);
        x.read(1, 0, 999);
        Checks.due("the other account's lines are not its own: lineAmount(0, 5)", x.lineAmount(0, 5), 0);
    }

    /** Promise 11: "BAD_PERIOD in the cases in which lineAmount says 0 for want of a line": a wrong account. */
    private static void linePeriodOfAWrongAccount() {
        for (int account : Edges.wrongAccounts()) {
            for (int back : new int[] {0, 7}) {
                Refusals.inEveryState("linePeriod(" + account + ", " + back + ")", UtilityRebiller.BAD_PERIOD,
                        x -> x.linePeriod(account, back));
            }
        }
        UtilityRebiller x = withLines(1);
        Checks.due("linePeriod(0, 0)", x.linePeriod(0, 0), 0);
        Checks.due("linePeriod(1, 0)", x.linePeriod(1, 0), 0);
    }

    /** Promise 11: the same, for a wrong back, with lines enough for more. */
    private static void linePeriodBackNotIn0To7() {
        for (int back : Edges.wrongBacks()) {
            for (int account = 0; account < 2; account++) {
                int whose = account;
                Refusals.inEveryState("linePeriod(" + account + ", " + back + ")", UtilityRebiller.BAD_PERIOD,
                        x -> x.linePeriod(whose, back));
                Checks.due("twenty lines: linePeriod(" + account + ", " + back + ")",
                        withLines(20).linePeriod(account, back), UtilityRebiller.BAD_PERIOD);
            }
        }
        UtilityRebiller x = withLines(20);
        for (int back = 8; back <= 21; back++) {
            Checks.due("twenty lines: linePeriod(0, " + back + ")", x.linePeriod(0, back), UtilityRebiller.BAD_PERIOD);
            Checks.due("twenty lines: linePeriod(1, " + -back + ")", x.linePeriod(1, -back), UtilityRebiller.BAD_PERIOD);
        }
        Checks.due("twenty lines: linePeriod(0, 0)", x.linePeriod(0, 0), 5);
        Checks.due("twenty lines: linePeriod(1, 7)", x.linePeriod(1, 7), 5);
    }

    /** Promise 11: the same, where there is no such line, for none to nine lines. */
    private static void linePeriodNoSuchLine() {
        for (int lines = 0; lines <= 9; lines++) {
            UtilityRebiller x = withLines(lines);
            int closed = closedBefore(lines);
            for (int back = 0; back < 8; back++) {
                int line = lines - 1 - back;
                int want = line < 0 ? UtilityRebiller.BAD_PERIOD : line < closed ? line : closed - 1;
                Checks.due(lines + " lines: linePeriod(0, " + back + ")", x.linePeriod(0, back), want);
                Checks.due(lines + " lines: linePeriod(1, " + back + ")", x.linePeriod(1, back), want);
            }
        }
    }

    /** Promise 11: "for want of a line": a line whose amount is 0 is there, and has its period. */
    private static void aLineOfAmountZero() {
        UtilityRebiller x = new UtilityRebiller();
        for (int period = 0; period < 6; period++) {
            x.close();
            for (int back = 0; back < 8; back++) {
                int want = back <= period ? period - back : UtilityRebiller.BAD_PERIOD;
                Checks.due("lines of 0: linePeriod(0, " + back + ")", x.linePeriod(0, back), want);
                Checks.due("lines of 0: lineAmount(0, " + back + ")", x.lineAmount(0, back), 0);
            }
        }
    }

    /** Promises 10 and 11: the last eight are told right at every length of a ledger, wherever it may wrap around. */
    private static void manyLines() {
        for (int lines = 8; lines <= 70; lines++) {
            UtilityRebiller x = withLines(lines);
            int closed = closedBefore(lines);
            for (int back = 0; back < 8; back++) {
                int line = lines - 1 - back;
                int after = line - closed;
                int want = after < 0 ? 1000 : after % 2 == 0 ? -(1000 + 8 * (after / 2)) : 1000 + 8 * (after / 2 + 1);
                Checks.due(lines + " lines: lineAmount(1, " + back + ")", x.lineAmount(1, back), want);
                Checks.due(lines + " lines: linePeriod(1, " + back + ")", x.linePeriod(1, back),
                        after < 0 ? line : closed - 1);
            }
        }
    }

    /** Up to six lines are closes alone; of more, five or six are, and the rest come in pairs. */
    private static int closedBefore(int lines) {
        return lines <= 6 ? lines : 6 - lines % 2;
    }

    /** Both ledgers with so many lines: one of 1000 for each close, then the last period billed anew by 8 more each time. */
    private static UtilityRebiller withLines(int lines) {
        UtilityRebiller x = new UtilityRebiller();
        Checks.setTariff(x, 1, 1, 1);
        int closed = closedBefore(lines);
        for (int account = 0; account < 2; account++) {
            Checks.readPeriod(x, account, 0, 125, 125, 125, 125, 125, 125, 125, 125);
        }
        for (int n = 0; n < closed; n++) {
            x.close();
        }
        for (int n = 0; n < (lines - closed) / 2; n++) {
            for (int account = 0; account < 2; account++) {
                x.read(account, 8 * (closed - 1), 125 + 8 * (n + 1));
            }
        }
        return x;
    }
}
