/** The boundary cases of promise 2, one method for each sentence. */
public final class TariffBoundaryTest {
    public static void main(String[] args) {
        itemNotIn0To5();
        rateNotIn0To99();
        oldNumber();
        closedFromNowOn();
        allSixClosed();
        Checks.end();
    }

    /** "item not in 0 to 5: BAD_ITEM ... nothing changes then." */
    private static void itemNotIn0To5() {
        for (int item : Edges.outside(0, 5)) {
            for (int rate : new int[] {0, 50, 99}) {
                Refusals.inEveryState("tariff(" + item + ", " + rate + ")", UtilityRebiller.BAD_ITEM,
                        x -> x.tariff(item, rate));
            }
        }
        for (int item : new int[] {0, 5}) {
            UtilityRebiller x = new UtilityRebiller();
            Checks.due("tariff(" + item + ", 1)", x.tariff(item, 1), 0);
            Checks.due("tariff(" + item + ", 2)", x.tariff(item, 2), 1);
        }
    }

    /** "rate not in 0 to 99: BAD_RATE; nothing changes then." */
    private static void rateNotIn0To99() {
        for (int rate : Edges.outside(0, 99)) {
            for (int item = 0; item < 6; item++) {
                int which = item;
                Refusals.inEveryState("tariff(" + item + ", " + rate + ")", UtilityRebiller.BAD_RATE,
                        x -> x.tariff(which, rate));
            }
        }
        for (int item = 0; item < 6; item++) {
            UtilityRebiller x = new UtilityRebiller();
            Checks.due("tariff(" + item + ", 99)", x.tariff(item, 99), 0);
            Checks.due("tariff(" + item + ", 100)", x.tariff(item, 100), UtilityRebiller.BAD_RATE);
            Checks.due("after 99: tariff(" + item + ", 0)", x.tariff(item, 0), 99);
            Checks.due("tariff(" + item + ", -1)", x.tariff(item, -1), UtilityRebiller.BAD_RATE);
            Checks.due("after 0: tariff(" + item + ", 1)", x.tariff(item, 1), 0);
        }
    }

    /** "Else answers the item's old number": also if it stays the same, and over a close. */
    private static void oldNumber() {
        for (int item = 0; item < 6; item++) {
            UtilityRebiller x = new UtilityRebiller();
            x.tariff(item, 99);
            Checks.due("the same again: tariff(" + item + ", 99)", x.tariff(item, 99), 99);
            for (int n = 0; n < 7; n++) {
                x.close();
                Checks.due("after a close: tariff(" + item + ", " + n + ")", x.tariff(item, n), n == 0 ? 99 : n - 1);
            }
        }
    }

    /** "for the periods that are closed from now on": the one before keeps its own, the next has the new one. */
    private static void closedFromNowOn() {
        for (int closed = 1; closed < 6; closed++) {
            UtilityRebiller x = new UtilityRebiller();
            x.tariff(5, 3);
            for (int n = 0; n < closed; n++) {
                x.close();
            }
            x.tariff(5, 8);
            Checks.due(closed + " closed: lines(0)", x.lines(0), closed);
            Checks.due(closed + " closed: balance(0)", x.balance(0), 3000 * closed);
            Checks.due(closed + " closed: the last of them", x.amount(0, closed - 1), 3000);
            Checks.due(closed + " closed: the first that is open", x.amount(0, closed), 8000);
            x.close();
            Checks.ledgerEnds(closed + " closed and one more", x, 1, closed - 1, 3000, closed, 8000);
        }
    }

    /** "Else answers the item's old number": no sentence refuses a call because all six periods are closed. */
    private static void allSixClosed() {
        for (int item = 0; item < 6; item++) {
            UtilityRebiller x = Refusals.prepared(Refusals.ALL_CLOSED);
            int[] before = Checks.state(x);
            int old = item == 5 ? 98 : 20 + item;
            String call = "all closed: tariff(" + item;
            Checks.due(call + ", 99)", x.tariff(item, 99), old);
            Checks.due(call + ", 0)", x.tariff(item, 0), 99);
            Checks.due(call + ", 100)", x.tariff(item, 100), UtilityRebiller.BAD_RATE);
            Checks.due(call + ", 7)", x.tariff(item, 7), 0);
            Checks.sameState(call + ", ...)", x, before);
        }
    }
}
