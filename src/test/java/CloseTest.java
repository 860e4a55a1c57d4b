/** Promise 5: close bills the next period to both accounts, under the tariff as it is then. */
public final class CloseTest {
    public static void main(String[] args) {
        periodsInTurn();
        bothAccountsAreBilled();
        tariffStaysForGood();
        everyPeriodHasItsOwnTariff();
        allClosed();
        Checks.end();
    }

    private static void periodsInTurn() {
        UtilityRebiller x = new UtilityRebiller();
        for (int period = 0; period < 6; period++) {
            Checks.due("close number " + period, x.close(), period);
            Checks.due("lines(0) after " + period, x.lines(0), period + 1);
            Checks.due("lines(1) after " + period, x.lines(1), period + 1);
            Checks.due("linePeriod(0, 0) after " + period, x.linePeriod(0, 0), period);
            Checks.due("linePeriod(1, 0) after " + period, x.linePeriod(1, 0), period);
        }
    }

    private static void bothAccountsAreBilled() {
        UtilityRebiller x = new UtilityRebiller();
        Checks.setTariff(x, 2, 3, 5, 7);
        Checks.readPeriod(x, 0, 0, 1, 2, 3, 4, 5, 6, 7, 8);
        Checks.readPeriod(x, 1, 0, 100, 0, 0, 0, 0, 0, 0, 0);
        x.read(0, 8, 10);
        Checks.due("close()", x.close(), 0);
        Checks.ledgerEnds("closed", x, 0, 0, 12 + 27 + 105 + 56);
        Checks.ledgerEnds("closed", x, 1, 0, 200 + 700);
        Checks.due("close()", x.close(), 1);
        Checks.ledgerEnds("closed", x, 0, 0, 200, 1, 30 + 27 + 105 + 70);
        Checks.ledgerEnds("closed", x, 1, 0, 900, 1, 900);
    }

    private static void tariffStaysForGood() {
        for (int item = 0; item < 6; item++) {
            UtilityRebiller x = new UtilityRebiller();
            Checks.setTariff(x, 1, 1, 1, 1, 1, 1);
            Checks.readPeriod(x, 0, 0, 500, 500, 500, 500, 500, 500, 500, 500);
            x.close();
            Checks.due("closed: amount(0, 0)", x.amount(0, 0), 4000 + 500 + 2000);
            x.tariff(item, 60);
            Checks.due("item " + item + " set after: amount(0, 0)", x.amount(0, 0), 6500);
            Checks.due("item " + item + " set after: amount(1, 0)", x.amount(1, 0), 1000);
            x.read(0, 0, 501);
            Checks.ledgerEnds("item " + item + " set after", x, 0, 0, -6500, 0, 6503);
        }
    }

    private static void everyPeriodHasItsOwnTariff() {
        UtilityRebiller x = new UtilityRebiller();
        for (int period = 0; period < 6; period++) {
            x.tariff(5, 10 + period);
            x.close();
        }
        x.tariff(5, 99);
        for (int period = 0; period < 6; period++) {
            Checks.due("amount(0, " + period + ")", x.amount(0, period), 10000 + 1000 * period);
            Checks.due("amount(1, " + period + ")", x.amount(1, period), 10000 + 1000 * period);
        }
    }

    private static void allClosed() {
        UtilityRebiller x = new UtilityRebiller();
        Checks.setTariff(x, 1, 2, 3, 4, 5, 6);
        x.read(1, 9, 800);
        for (int period = 0; period < 6; period++) {
            x.close();
        }
        x.tariff(5, 50);
        int[] before = Checks.state(x);
        Checks.due("the seventh close()", x.close(), UtilityRebiller.ALL_CLOSED);
        Checks.due("the eighth close()", x.close(), UtilityRebiller.ALL_CLOSED);
        Checks.sameState("close() with all closed", x, before);
        Checks.due("the tariff is as it was: tariff(5, 1)", x.tariff(5, 1), 50);
    }
}
