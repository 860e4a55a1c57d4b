/** Promise 7 and the term AMOUNT. */
public final class AmountTest {
    public static void main(String[] args) {
        energyOfEachSlot();
        demandIsTheGreatest();
        surchargeAbove2000();
        leastAmount();
        greatestAmount();
        usageIsEstimated();
        ownTariffIfClosed();
        wrongArguments();
        Checks.end();
    }

    private static void energyOfEachSlot() {
        int[] rates = {2, 2, 2, 3, 3, 5, 5, 5};
        for (int slot = 0; slot < 8; slot++) {
            UtilityRebiller x = onlySlot(slot, 10);
            Checks.setTariff(x, 2, 3, 5);
            Checks.due("energy of slot " + slot, x.amount(0, 0), 10 * rates[slot]);
        }
        UtilityRebiller x = new UtilityRebiller();
        Checks.setTariff(x, 2, 3, 5);
        Checks.readPeriod(x, 1, 5, 1, 2, 3, 4, 5, 6, 7, 8);
        Checks.due("energy of all slots", x.amount(1, 5), 12 + 27 + 105);
    }

    private static void demandIsTheGreatest() {
        for (int slot = 0; slot < 8; slot++) {
            UtilityRebiller x = onlySlot(slot, 10);
            x.tariff(3, 7);
            Checks.due("demand with the greatest in slot " + slot, x.amount(0, 0), 70);
            x.read(0, (slot + 3) % 8, 9);
            Checks.due("demand with another one below it", x.amount(0, 0), 70);
            x.read(0, (slot + 5) % 8, 11);
            Checks.due("demand with another one above it", x.amount(0, 0), 77);
        }
    }

    private static void surchargeAbove2000() {
        UtilityRebiller x = new UtilityRebiller();
        x.tariff(4, 9);
        Checks.readPeriod(x, 0, 0, 250, 250, 250, 250, 250, 250, 250, 249);
        Checks.due("sum 1999", x.amount(0, 0), 0);
        x.read(0, 7, 250);
        Checks.due("sum 2000", x.amount(0, 0), 0);
        x.read(0, 7, 251);
        Checks.due("sum 2001", x.amount(0, 0), 9);
        x.read(0, 0, 999);
        Checks.due("sum 2750", x.amount(0, 0), 750 * 9);
    }

    private static void leastAmount() {
        UtilityRebiller x = onlySlot(0, 99);
        x.tariff(0, 10);
        x.tariff(5, 1);
        Checks.due("990 is below 1000", x.amount(0, 0), 1000);
        x.read(0, 0, 100);
        Checks.due("1000 is 1000", x.amount(0, 0), 1000);
        x.read(0, 0, 101);
        Checks.due("1010 is above 1000", x.amount(0, 0), 1010);
        x.tariff(5, 99);
        Checks.due("no reads: amount(1, 3)", x.amount(1, 3), 99000);
    }

    private static void greatestAmount() {
        UtilityRebiller x = new UtilityRebiller();
        Checks.setTariff(x, 99, 99, 99, 99, 99, 99);
        Checks.readPeriod(x, 0, 0, 999, 999, 999, 999, 999, 999, 999, 999);
        Checks.due("the greatest amount", x.amount(0, 0), 791208 + 98901 + 593208);
        Checks.due("the greatest amount, estimated", x.amount(0, 5), 1483317);
    }

    private static void usageIsEstimated() {
        UtilityRebiller x = new UtilityRebiller();
        Checks.setTariff(x, 1, 10, 90, 2, 1);
        x.read(0, 0, 300);
        x.read(0, 4, 401);
        // the mean of 300 and 401 is 350; the sum of the period is 300 + 401 + 6 * 350 = 2801
        Checks.due("two reads, six means", x.amount(0, 0), 1000 + 7510 + 94500 + 802 + 801);
        Checks.due("two earlier reads alone", x.amount(0, 1), 300 + 4010 + 802);
    }

    private static void ownTariffIfClosed() {
        UtilityRebiller x = onlySlot(0, 10);
        x.tariff(0, 1);
        Checks.due("open: amount(0, 0)", x.amount(0, 0), 10);
        x.tariff(0, 2);
        Checks.due("open, under the tariff as it is now: amount(0, 0)", x.amount(0, 0), 20);
        x.close();
        x.tariff(0, 3);
        Checks.due("closed: amount(0, 0)", x.amount(0, 0), 20);
        for (int period = 1; period < 6; period++) {
            Checks.due("open: amount(0, " + period + ")", x.amount(0, period), 30);
        }
        x.read(0, 0, 20);
        Checks.due("closed and read anew: amount(0, 0)", x.amount(0, 0), 40);
    }

    private static void wrongArguments() {
        UtilityRebiller x = new UtilityRebiller();
        x.tariff(5, 1);
        for (int account : Checks.wrongAccounts()) {
            Checks.due("amount(" + account + ", 0)", x.amount(account, 0), UtilityRebiller.BAD_ACCOUNT);
            Checks.due("amount(" + account + ", 6)", x.amount(account, 6), UtilityRebiller.BAD_ACCOUNT);
        }
        int[] wrong = {-1, 6, 7, Integer.MIN_VALUE, Integer.MAX_VALUE};
        for (int period : wrong) {
            Checks.due("amount(0, " + period + ")", x.amount(0, period), UtilityRebiller.BAD_PERIOD);
            Checks.due("amount(1, " + period + ")", x.amount(1, period), UtilityRebiller.BAD_PERIOD);
        }
        Checks.due("amount(0, 5)", x.amount(0, 5), 1000);
        Checks.due("amount(1, 5)", x.amount(1, 5), 1000);
    }

    private static UtilityRebiller onlySlot(int slot, int usage) {
        UtilityRebiller x = new UtilityRebiller();
        Checks.readPeriod(x, 0, 0, 0, 0, 0, 0, 0, 0, 0, 0);
        x.read(0, slot, usage);
        return x;
    }
}
