/** The boundary cases of promise 3, one method for each sentence. */
public final class ReadBoundaryTest {
    public static void main(String[] args) {
        accountNot0Or1();
        intervalNotIn0To47();
        usageNotIn0To999();
        testsInThisOrder();
        insteadOfAnOlderOne();
        noClosedPeriod();
        lastClosedAndFirstOpenPeriod();
        everyClosedPeriodUpToSix();
        ascendingOrder();
        anotherAmountByOne();
        sameAmount();
        someOfTheClosedPeriods();
        underTheTariffItWasClosedWith();
        Checks.end();
    }

    /** "account not 0 or 1: BAD_ACCOUNT ... A refused call changes nothing." */
    private static void accountNot0Or1() {
        for (int account : Edges.wrongAccounts()) {
            for (int interval : new int[] {0, 47}) {
                Refusals.inEveryState("read(" + account + ", " + interval + ", 5)", UtilityRebiller.BAD_ACCOUNT,
                        x -> x.read(account, interval, 5));
            }
        }
        for (int account = 0; account < 2; account++) {
            UtilityRebiller x = new UtilityRebiller();
            Checks.due("read(" + account + ", 0, 5)", x.read(account, 0, 5), 0);
            Checks.due("usage(" + account + ", 0)", x.usage(account, 0), 5);
            Checks.due("usage(" + (1 - account) + ", 0)", x.usage(1 - account, 0), 0);
        }
    }

    /** "interval not in 0 to 47: BAD_INTERVAL ... A refused call changes nothing." */
    private static void intervalNotIn0To47() {
        for (int interval : Edges.wrongIntervals()) {
            for (int account = 0; account < 2; account++) {
                int whose = account;
                Refusals.inEveryState("read(" + account + ", " + interval + ", 5)", UtilityRebiller.BAD_INTERVAL,
                        x -> x.read(whose, interval, 5));
            }
        }
        for (int account = 0; account < 2; account++) {
            for (int interval : new int[] {0, 47}) {
                UtilityRebiller x = new UtilityRebiller();
                Checks.due("read(" + account + ", " + interval + ", 5)", x.read(account, interval, 5), 0);
                Checks.due("usage(" + account + ", " + interval + ")", x.usage(account, interval), 5);
                Checks.due("unread(" + account + ", " + interval + ")", x.unread(account, interval), 0);
            }
        }
    }

    /** "usage not in 0 to 999: BAD_READ. A refused call changes nothing." */
    private static void usageNotIn0To999() {
        for (int usage : Edges.outside(0, 999)) {
            for (int interval : new int[] {0, 1, 47}) {
                for (int account = 0; account < 2; account++) {
                    int whose = account;
                    Refusals.inEveryState("read(" + account + ", " + interval + ", " + usage + ")",
                            UtilityRebiller.BAD_READ, x -> x.read(whose, interval, usage));
                }
            }
        }
        UtilityRebiller x = new UtilityRebiller();
        Checks.due("read(0, 9, 999)", x.read(0, 9, 999), 0);
        Checks.due("usage(0, 9)", x.usage(0, 9), 999);
        Checks.due("read(0, 9, 0)", x.read(0, 9, 0), 0);
        Checks.due("usage(0, 9)", x.usage(0, 9), 0);
        Checks.due("a read of 0 is a read: unread(0, 9)", x.unread(0, 9), 0);
    }

    /** "Tests in this order": each two that are wrong at once, and all three. */
    private static void testsInThisOrder() {
        UtilityRebiller x = new UtilityRebiller();
        for (int account : Edges.wrongAccounts()) {
            for (int interval : Edges.wrongIntervals()) {
                Checks.due("read(" + account + ", " + interval + ", 5)", x.read(account, interval, 5),
                        UtilityRebiller.BAD_ACCOUNT);
                Checks.due("read(" + account + ", " + interval + ", 1000)", x.read(account, interval, 1000),
                        UtilityRebiller.BAD_ACCOUNT);
            }
            for (int usage : Edges.outside(0, 999)) {
                Checks.due("read(" + account + ", 47, " + usage + ")", x.read(account, 47, usage),
                        UtilityRebiller.BAD_ACCOUNT);
            }
        }
        for (int interval : Edges.wrongIntervals()) {
            for (int usage : Edges.outside(0, 999)) {
                for (int account = 0; account < 2; account++) {
                    Checks.due("read(" + account + ", " + interval + ", " + usage + ")",
                            x.read(account, interval, usage), UtilityRebiller.BAD_INTERVAL);
                }
            }
        }
    }

    /** "A meter read, instead of an older one for the same interval": the older one no longer counts in any way. */
    private static void insteadOfAnOlderOne() {
        for (int interval : new int[] {0, 7, 8, 40, 47}) {
            UtilityRebiller x = new UtilityRebiller();
            int beside = interval % 8 == 7 ? interval - 1 : interval + 1;
            x.read(1, interval, 999);
            x.read(1, interval, 0);
            Checks.due("read twice: usage(1, " + interval + ")", x.usage(1, interval), 0);
            Checks.due("the mean has the newer one alone: usage(1, " + beside + ")", x.usage(1, beside), 0);
            Checks.due("unread(1, " + interval + ")", x.unread(1, interval), 0);
            Checks.due("unread(1, " + interval + ") again", x.unread(1, interval), UtilityRebiller.NO_READ);
        }
    }

    /** "for every closed period": with none closed no line is written. */
    private static void noClosedPeriod() {
        UtilityRebiller x = new UtilityRebiller();
        Checks.setTariff(x, 9, 9, 9, 9, 9, 9);
        Checks.due("none closed: read(0, 0, 999)", x.read(0, 0, 999), 0);
        Checks.due("none closed: lines(0)", x.lines(0), 0);
        Checks.due("none closed: balance(0)", x.balance(0), 0);
    }

    /** "for every closed period": the last closed one is billed anew, the first open one is not. */
    private static void lastClosedAndFirstOpenPeriod() {
        for (int closed = 1; closed < 6; closed++) {
            UtilityRebiller x = new UtilityRebiller();
            x.tariff(1, 1);
            for (int n = 0; n < closed; n++) {
                x.close();
            }
            int last = closed - 1;
            Checks.due(closed + " closed: a read in the first open one", x.read(0, closed * 8 + 4, 6), 0);
            Checks.due(closed + " closed, read in the open one: lines(0)", x.lines(0), closed);
            Checks.due(closed + " closed: a read in the last closed one", x.read(0, last * 8 + 3, 7), 1);
            Checks.due(closed + " closed, read in the closed one: lines(0)", x.lines(0), closed + 2);
            Checks.ledgerEnds(closed + " closed", x, 0, last, 0, last, 0, last, 14);
        }
    }

    /** "for every closed period ... Answers how many periods that were": none to six of them. */
    private static void everyClosedPeriodUpToSix() {
        for (int closed = 0; closed <= 6; closed++) {
            for (int from = 0; from < 6; from++) {
                UtilityRebiller x = new UtilityRebiller();
                x.tariff(2, 5);
                for (int n = 0; n < closed; n++) {
                    x.close();
                }
                int want = closed > from ? closed - from : 0;
                String when = closed + " closed, read in period " + from;
                Checks.due(when, x.read(1, from * 8 + 7, 3), want);
                Checks.due(when + ": lines(1)", x.lines(1), closed + 2 * want);
                Checks.due(when + ": lines(0)", x.lines(0), closed);
            }
        }
    }

    /** "in ascending order ...: a line with that period and minus the old amount, then one ... and the new amount." */
    private static void ascendingOrder() {
        UtilityRebiller x = new UtilityRebiller();
        Checks.readPeriod(x, 0, 0, 10, 0, 0, 0, 0, 0, 0, 0);
        for (int period = 0; period < 6; period++) {
            x.tariff(0, period + 1);
            x.close();
        }
        Checks.due("all six: read(0, 0, 20)", x.read(0, 0, 20), 6);
        Checks.ledgerEnds("all six, the last four", x, 0, 2, -30, 2, 60, 3, -40, 3, 80, 4, -50, 4, 100, 5, -60, 5, 120);
        Checks.due("all six: lines(0)", x.lines(0), 18);
        // a read of its own shields the last periods, so that the first ones come into sight
        Checks.due("the last four shielded: read(0, 16, 0)", x.read(0, 16, 0), 4);
        Checks.due("the first two: read(0, 0, 0)", x.read(0, 0, 0), 2);
        Checks.ledgerEnds("the first two", x, 0, 5, -120, 5, 0, 0, -20, 0, 0, 1, -40, 1, 0);
    }

    /** "whose amount ... is now another than it was": by 1 upwards and by 1 downwards. */
    private static void anotherAmountByOne() {
        for (int account = 0; account < 2; account++) {
            UtilityRebiller x = new UtilityRebiller();
            Checks.readPeriod(x, account, 0, 5, 5, 5, 5, 5, 5, 5, 5);
            x.tariff(1, 1);
            x.close();
            Checks.due("one more", x.read(account, 4, 6), 1);
            Checks.ledgerEnds("one more", x, account, 0, 10, 0, -10, 0, 11);
            Checks.due("one less", x.read(account, 3, 4), 1);
            Checks.ledgerEnds("one less", x, account, 0, -11, 0, 10);
        }
    }

    /** "another than it was": a read that leaves the amount as it was writes nothing, but is kept. */
    private static void sameAmount() {
        UtilityRebiller x = new UtilityRebiller();
        Checks.setTariff(x, 1, 1, 1, 0, 0, 1);
        Checks.readPeriod(x, 0, 0, 999, 0, 0, 0, 0, 0, 0, 0);
        x.close();
        Checks.due("999, below the least amount", x.lineAmount(0, 0), 1000);
        Checks.due("1000, at the least amount", x.read(0, 1, 1), 0);
        Checks.due("at the least amount: lines(0)", x.lines(0), 1);
        Checks.due("it is kept: usage(0, 1)", x.usage(0, 1), 1);
        Checks.due("1001, above it", x.read(0, 1, 2), 1);
        Checks.due("the same read again", x.read(0, 1, 2), 0);
        Checks.due("what was estimated is read: read(0, 9, 2)", x.read(0, 9, 2), 0);
        Checks.due("above it: lines(0)", x.lines(0), 3);
        UtilityRebiller free = new UtilityRebiller();
        free.close();
        Checks.due("a tariff of zeros: read(0, 0, 999)", free.read(0, 0, 999), 0);
        Checks.due("a tariff of zeros: lines(0)", free.lines(0), 1);
    }

    /** "every closed period ... whose amount ... is now another": the ones between that stay the same are left out. */
    private static void someOfTheClosedPeriods() {
        UtilityRebiller x = new UtilityRebiller();
        Checks.readPeriod(x, 1, 0, 1, 0, 0, 0, 0, 0, 0, 0);
        for (int period = 0; period < 6; period++) {
            x.tariff(0, period % 2 == 0 ? 1 : 0);
            x.close();
        }
        Checks.due("periods 0, 2 and 4: read(1, 0, 4)", x.read(1, 0, 4), 3);
        Checks.ledgerEnds("periods 0, 2 and 4", x, 1, 4, 1, 5, 0, 0, -1, 0, 4, 2, -1, 2, 4, 4, -1, 4, 4);
        Checks.due("periods 0, 2 and 4: lines(1)", x.lines(1), 12);
        Checks.due("periods 0, 2 and 4: balance(1)", x.balance(1), 12);
    }

    /** "(under the tariff it was closed with)": not the one of now, and not the one of the period before or after. */
    private static void underTheTariffItWasClosedWith() {
        for (int item = 0; item < 6; item++) {
            UtilityRebiller x = new UtilityRebiller();
            Checks.setTariff(x, 1, 1, 1, 1, 1, 1);
            Checks.readPeriod(x, 0, 1, 500, 500, 500, 500, 500, 500, 500, 500);
            x.tariff(item, 70);
            x.close();
            x.tariff(item, 1);
            x.close();
            x.tariff(item, 80);
            x.close();
            x.tariff(item, 90);
            Checks.due("item " + item + ": lineAmount(0, 1)", x.lineAmount(0, 1), 6500);
            Checks.due("item " + item + ": read(0, 8, 500)", x.read(0, 8, 500), 0);
            x.read(0, 16, 500);
            Checks.due("item " + item + ": read(0, 8, 499)", x.read(0, 8, 499), 1);
            Checks.ledgerEnds("item " + item, x, 0, 1, -6500, 1, 6498);
        }
    }
}
