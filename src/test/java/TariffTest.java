/** Promise 2: tariff sets an item for the periods that are closed from now on. */
public final class TariffTest {
    public static void main(String[] args) {
        answersTheOldNumber();
        itemsAreApart();
        closedPeriodsKeepTheirs();
        wrongItem();
        wrongRate();
        Checks.end();
    }

    private static void answersTheOldNumber() {
        for (int item = 0; item < 6; item++) {
            UtilityRebiller x = new UtilityRebiller();
            Checks.due("tariff(" + item + ", 99)", x.tariff(item, 99), 0);
            Checks.due("tariff(" + item + ", 7)", x.tariff(item, 7), 99);
            Checks.due("tariff(" + item + ", 0)", x.tariff(item, 0), 7);
            Checks.due("tariff(" + item + ", 0) again", x.tariff(item, 0), 0);
        }
    }

    private static void itemsAreApart() {
        UtilityRebiller x = new UtilityRebiller();
        Checks.setTariff(x, 11, 12, 13, 14, 15, 16);
        for (int item = 0; item < 6; item++) {
            Checks.due("set all, tariff(" + item + ", 1)", x.tariff(item, 1), 11 + item);
        }
    }

    private static void closedPeriodsKeepTheirs() {
        UtilityRebiller x = new UtilityRebiller();
        x.tariff(5, 3);
        x.close();
        Checks.due("after close: tariff(5, 8)", x.tariff(5, 8), 3);
        Checks.due("tariff changed after close: amount(0, 0)", x.amount(0, 0), 3000);
        Checks.due("tariff changed after close: amount(0, 1)", x.amount(0, 1), 8000);
        Checks.due("tariff changed after close: balance(0)", x.balance(0), 3000);
        Checks.due("tariff changed after close: lines(0)", x.lines(0), 1);
        x.close();
        Checks.due("second close under the new tariff", x.lineAmount(0, 0), 8000);
        Checks.due("second close: amount(0, 0)", x.amount(0, 0), 3000);
    }

    private static void wrongItem() {
        UtilityRebiller x = withReads();
        int[] before = Checks.state(x);
        int[] wrong = {-1, 6, 7, 42, Integer.MIN_VALUE, Integer.MAX_VALUE};
        for (int item : wrong) {
            Checks.due("tariff(" + item + ", 50)", x.tariff(item, 50), UtilityRebiller.BAD_ITEM);
        }
        Checks.sameState("tariff with a wrong item", x, before);
        oldNumbers(x);
    }

    private static void wrongRate() {
        UtilityRebiller x = withReads();
        int[] before = Checks.state(x);
        int[] wrong = {-1, 100, 101, Integer.MIN_VALUE, Integer.MAX_VALUE};
        for (int rate : wrong) {
            for (int item = 0; item < 6; item++) {
                Checks.due("tariff(" + item + ", " + rate + ")", x.tariff(item, rate), UtilityRebiller.BAD_RATE);
            }
        }
        Checks.sameState("tariff with a wrong rate", x, before);
        oldNumbers(x);
    }

    private static UtilityRebiller withReads() {
        UtilityRebiller x = new UtilityRebiller();
        Checks.setTariff(x, 11, 12, 13, 14, 15, 16);
        x.read(0, 1, 400);
        x.read(1, 4, 10);
        x.close();
        return x;
    }

    private static void oldNumbers(UtilityRebiller x) {
        for (int item = 0; item < 6; item++) {
            Checks.due("after refused calls: tariff(" + item + ", 0)", x.tariff(item, 0), 11 + item);
        }
    }
}
