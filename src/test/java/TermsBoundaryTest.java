/** The boundary cases that the document's section 'Terms' names, one method for each. */
public final class TermsBoundaryTest {
    public static void main(String[] args) {
        lastSlotAndFirstSlot();
        ownReadGoesFirst();
        earlierPeriodOfTheSameSlot();
        latestEarlierPeriod();
        meanOfOneToSevenReads();
        roundedDown();
        elseZero();
        energyWhereTheItemChanges();
        demandIsTheGreatest();
        surchargeAbove2000();
        surchargeIsNeverTakenOff();
        atLeastItem5Times1000();
        leastIsOfTheWholeSum();
        greatestAmount();
        askingChangesNothing();
        Checks.end();
    }

    /** "INTERVAL i (0 to 47) is slot i % 8 of period i / 8." */
    private static void lastSlotAndFirstSlot() {
        for (int period = 0; period < 6; period++) {
            int first = period * 8;
            int last = first + 7;
            for (int interval : new int[] {first, last}) {
                UtilityRebiller x = new UtilityRebiller();
                x.tariff(0, 1);
                x.tariff(2, 10);
                x.read(0, interval, 8);
                int mine = 8 * 33;
                int later = interval == first ? 8 : 80;
                for (int other = 0; other < 6; other++) {
                    int want = other < period ? 0 : other == period ? mine : later;
                    Checks.due("read in " + interval + " alone: amount(0, " + other + ")", x.amount(0, other), want);
                }
                for (int other = 0; other < 48; other++) {
                    boolean sameSlotLater = other > interval && other % 8 == interval % 8;
                    int want = other / 8 == period || sameSlotLater ? 8 : 0;
                    Checks.due("read in " + interval + " alone: usage(0, " + other + ")", x.usage(0, other), want);
                }
            }
        }
    }

    /** "1. the read, if there is one for this interval": also if it is 0, and before an earlier read and the mean. */
    private static void ownReadGoesFirst() {
        for (int own : new int[] {0, 1, 998, 999}) {
            UtilityRebiller x = new UtilityRebiller();
            x.read(1, 0, 500);
            x.read(1, 32, 600);
            x.read(1, 41, 700);
            x.read(1, 40, own);
            Checks.due("own read " + own + ": usage(1, 40)", x.usage(1, 40), own);
            x.unread(1, 40);
            Checks.due("own read " + own + " taken back: usage(1, 40)", x.usage(1, 40), 600);
        }
    }

    /** "2. else, if an earlier period has a read in the same slot": earlier, not later; the slot, not one beside it. */
    private static void earlierPeriodOfTheSameSlot() {
        for (int earlier = 0; earlier < 6; earlier++) {
            for (int period = 0; period < 6; period++) {
                UtilityRebiller x = new UtilityRebiller();
                x.read(0, earlier * 8 + 3, 90);
                x.read(0, earlier * 8 + 5, 70);
                if (period != earlier) {
                    x.read(0, period * 8, 20);
                }
                String when = "reads in period " + earlier + ": usage in period " + period;
                Checks.due(when + ", slot 4", x.usage(0, period * 8 + 4), period == earlier ? 80 : 20);
                Checks.due(when + ", slot 3", x.usage(0, period * 8 + 3), period >= earlier ? 90 : 20);
            }
        }
        UtilityRebiller x = new UtilityRebiller();
        x.read(0, 0, 0);
        x.read(0, 9, 50);
        Checks.due("an earlier read of 0 goes before the mean: usage(0, 8)", x.usage(0, 8), 0);
        Checks.due("the other account has none: usage(1, 8)", x.usage(1, 8), 0);
    }

    /** "the one of the latest such period": for each pair of earlier periods, in both orders of reading. */
    private static void latestEarlierPeriod() {
        for (int one = 0; one < 5; one++) {
            for (int other = 0; other < 5; other++) {
                if (one == other) {
                    continue;
                }
                UtilityRebiller x = new UtilityRebiller();
                x.read(0, one * 8 + 7, 100 + one);
                x.read(0, other * 8 + 7, 100 + other);
                int latest = one > other ? one : other;
                int first = one > other ? other : one;
                String when = "reads in periods " + one + " and " + other;
                Checks.due(when + ": usage(0, 47)", x.usage(0, 47), 100 + latest);
                int before = (latest - 1) * 8 + 7;
                Checks.due(when + ": usage(0, " + before + ")", x.usage(0, before), 100 + first);
                x.unread(0, latest * 8 + 7);
                Checks.due(when + ", the latest taken back: usage(0, 47)", x.usage(0, 47), 100 + first);
            }
        }
    }

    /** "3. else, if the interval's own period has a read in any slot": one read up to seven, in the first and last slots. */
    private static void meanOfOneToSevenReads() {
        for (int period = 0; period < 6; period++) {
            for (int empty = 0; empty < 8; empty++) {
                UtilityRebiller x = new UtilityRebiller();
                int sum = 0;
                int count = 0;
                for (int n = 1; n < 8; n++) {
                    int slot = (empty + n) % 8;
                    x.read(1, period * 8 + slot, 999 - 37 * slot);
                    sum += 999 - 37 * slot;
                    count++;
                    Checks.due(count + " reads in period " + period + ": usage in slot " + empty,
                            x.usage(1, period * 8 + empty), sum / count);
                }
            }
        }
    }

    /** "the sum of its reads divided by their number, rounded down": just below, at and just above a whole number. */
    private static void roundedDown() {
        for (int count = 1; count < 8; count++) {
            UtilityRebiller x = new UtilityRebiller();
            for (int slot = 0; slot < count; slot++) {
                x.read(0, 16 + slot, 10);
            }
            Checks.due(count + " reads of 10: usage(0, 23)", x.usage(0, 23), 10);
            x.read(0, 16, 9);
            Checks.due(count + " reads, one below 10 * count: usage(0, 23)", x.usage(0, 23), 9);
            x.read(0, 16, 10 + count - 1);
            Checks.due(count + " reads, one below 11 * count: usage(0, 23)", x.usage(0, 23), 10);
            x.read(0, 16, 10 + count);
            Checks.due(count + " reads, 11 * count: usage(0, 23)", x.usage(0, 23), 11);
        }
        UtilityRebiller x = new UtilityRebiller();
        Checks.readPeriod(x, 0, 0, 0, 0, 0, 0, 0, 0, 6);
        Checks.due("6 / 7: usage(0, 7)", x.usage(0, 7), 0);
        Checks.readPeriod(x, 0, 0, 999, 999, 999, 999, 999, 999, 999);
        Checks.due("seven reads of 999: usage(0, 7)", x.usage(0, 7), 999);
        x.read(0, 3, 998);
        Checks.due("six reads of 999, one of 998: usage(0, 7)", x.usage(0, 7), 998);
    }

    /** "4. else 0": reads stand all around it, in other slots earlier, in its slot later, in the other account. */
    private static void elseZero() {
        UtilityRebiller x = new UtilityRebiller();
        for (int slot = 0; slot < 8; slot++) {
            if (slot != 4) {
                x.read(0, slot, 500);
                x.read(0, 8 + slot, 500);
            }
            x.read(0, 24 + slot, 500);
            x.read(1, 8 + slot, 500);
        }
        Checks.due("usage(0, 20)", x.usage(0, 20), 0);
        Checks.due("beside it: usage(0, 19)", x.usage(0, 19), 500);
        Checks.due("its period has a read: usage(0, 12)", x.usage(0, 12), 500);
        x.read(0, 12, 0);
        Checks.due("an earlier read of 0: usage(0, 20)", x.usage(0, 20), 0);
        x.read(0, 12, 1);
        Checks.due("an earlier read of 1: usage(0, 20)", x.usage(0, 20), 1);
    }

    /** "u * item 0 for slots 0, 1, 2; u * item 1 for slots 3 and 4; u * item 2 for slots 5, 6, 7". */
    private static void energyWhereTheItemChanges() {
        int[] itemOf = {0, 0, 0, 1, 1, 2, 2, 2};
        for (int slot = 0; slot < 8; slot++) {
            for (int item = 0; item < 3; item++) {
                for (int rate : new int[] {0, 1, 99}) {
                    UtilityRebiller x = oneSlotUsed(slot, 999);
                    x.tariff(item, rate);
                    int want = item == itemOf[slot] ? 999 * rate : 0;
                    Checks.due("slot " + slot + ", item " + item + " at " + rate + ": amount(0, 2)", x.amount(0, 2), want);
                }
            }
        }
    }

    /** "the greatest u of the eight slots, times item 3": in every slot, at 0, with two alike, and of estimates. */
    private static void demandIsTheGreatest() {
        for (int slot = 0; slot < 8; slot++) {
            UtilityRebiller x = oneSlotUsed(slot, 1);
            x.tariff(3, 99);
            Checks.due("1 in slot " + slot + ": amount(0, 2)", x.amount(0, 2), 99);
            x.read(0, 16 + slot, 999);
            Checks.due("999 in slot " + slot + ": amount(0, 2)", x.amount(0, 2), 98901);
            x.read(0, 16 + (slot + 1) % 8, 999);
            Checks.due("999 in slot " + slot + " and the next: amount(0, 2)", x.amount(0, 2), 98901);
            x.read(0, 16 + (slot + 1) % 8, 998);
            Checks.due("998 in the next: amount(0, 2)", x.amount(0, 2), 98901);
            x.read(0, 16 + slot, 0);
            x.read(0, 16 + (slot + 1) % 8, 0);
            Checks.due("all 0: amount(0, 2)", x.amount(0, 2), 0);
        }
        UtilityRebiller x = new UtilityRebiller();
        x.tariff(3, 1);
        x.read(0, 7, 800);
        x.read(0, 14, 300);
        Checks.due("the greatest is an earlier read: amount(0, 1)", x.amount(0, 1), 800);
    }

    /** "if the sum of the eight u is above 2000: what is above, times item 4." */
    private static void surchargeAbove2000() {
        for (int rate : new int[] {0, 1, 99}) {
            UtilityRebiller x = new UtilityRebiller();
            x.tariff(4, rate);
            Checks.readPeriod(x, 1, 3, 999, 1, 0, 0, 0, 0, 0, 999);
            Checks.due("sum 1999, item 4 at " + rate, x.amount(1, 3), 0);
            x.read(1, 25, 2);
            Checks.due("sum 2000, item 4 at " + rate, x.amount(1, 3), 0);
            x.read(1, 25, 3);
            Checks.due("sum 2001, item 4 at " + rate, x.amount(1, 3), rate);
            x.read(1, 25, 4);
            Checks.due("sum 2002, item 4 at " + rate, x.amount(1, 3), 2 * rate);
            Checks.readPeriod(x, 1, 3, 999, 999, 999, 999, 999, 999, 999, 999);
            Checks.due("sum 7992, item 4 at " + rate, x.amount(1, 3), 5992 * rate);
            Checks.due("sum 7992 of earlier reads, item 4 at " + rate, x.amount(1, 4), 5992 * rate);
            Checks.due("sum 0, item 4 at " + rate, x.amount(1, 2), 0);
        }
        UtilityRebiller x = new UtilityRebiller();
        x.tariff(4, 1);
        x.read(0, 0, 250);
        Checks.due("one read, seven means, sum 2000: amount(0, 0)", x.amount(0, 0), 0);
        x.read(0, 0, 251);
        Checks.due("one read, seven means, sum 2008: amount(0, 0)", x.amount(0, 0), 8);
    }

    /** What is below 2000 lowers nothing: told by an energy that stands beside it. */
    private static void surchargeIsNeverTakenOff() {
        UtilityRebiller x = new UtilityRebiller();
        x.tariff(0, 1);
        x.tariff(1, 1);
        x.tariff(4, 99);
        Checks.readPeriod(x, 0, 0, 500, 500, 500, 499, 0, 0, 0, 0);
        Checks.due("energy and sum 1999: amount(0, 0)", x.amount(0, 0), 1999);
        x.read(0, 4, 1);
        Checks.due("energy and sum 2000: amount(0, 0)", x.amount(0, 0), 2000);
        x.read(0, 4, 2);
        Checks.due("energy and sum 2001: amount(0, 0)", x.amount(0, 0), 2001 + 99);
        Checks.readPeriod(x, 0, 0, 1, 0, 0, 0, 0);
        Checks.due("energy and sum 1: amount(0, 0)", x.amount(0, 0), 1);
    }

    /** "but at least item 5 times 1000": one below, at and one above, for the least and the greatest item. */
    private static void atLeastItem5Times1000() {
        for (int rate : new int[] {0, 1, 2}) {
            UtilityRebiller x = new UtilityRebiller();
            x.tariff(0, 1);
            x.tariff(5, rate);
            Checks.readPeriod(x, 0, 0, 0, 0, 0, 0, 0, 0, 0, 0);
            for (int total = 1000 * rate - 1; total <= 1000 * rate + 1; total++) {
                if (total >= 0) {
                    x.read(0, 0, total / 3);
                    x.read(0, 1, total / 3);
                    x.read(0, 2, total - total / 3 * 2);
                    Checks.due("energy " + total + ", item 5 at " + rate, x.amount(0, 0),
                            total < 1000 * rate ? 1000 * rate : total);
                }
            }
        }
        UtilityRebiller x = new UtilityRebiller();
        x.tariff(5, 99);
        x.tariff(0, 99);
        x.tariff(1, 1);
        Checks.readPeriod(x, 0, 5, 500, 500, 0, 0, 0, 0, 0, 0);
        Checks.due("energy 99000, item 5 at 99: amount(0, 5)", x.amount(0, 5), 99000);
        x.read(0, 43, 1);
        Checks.due("energy 99001, item 5 at 99: amount(0, 5)", x.amount(0, 5), 99001);
        x.read(0, 41, 499);
        Checks.due("energy 98902, item 5 at 99: amount(0, 5)", x.amount(0, 5), 99000);
        Checks.due("no reads, item 5 at 99: amount(1, 5)", x.amount(1, 5), 99000);
    }

    /** "energy + demand + surcharge, but at least ...": the three parts are added up first. */
    private static void leastIsOfTheWholeSum() {
        UtilityRebiller x = new UtilityRebiller();
        Checks.setTariff(x, 1, 1, 1, 1, 1, 3);
        Checks.readPeriod(x, 0, 0, 500, 500, 500, 500, 250, 0, 0, 0);
        Checks.due("2250 + 500 + 250 is 3000: amount(0, 0)", x.amount(0, 0), 3000);
        x.read(0, 7, 1);
        Checks.due("2251 + 500 + 251 is 3002: amount(0, 0)", x.amount(0, 0), 3002);
        x.read(0, 7, 0);
        x.read(0, 4, 249);
        Checks.due("2249 + 500 + 249 is 2998: amount(0, 0)", x.amount(0, 0), 3000);
    }

    /** "(Reads are at most 999, so an amount stays below 2000000.)" */
    private static void greatestAmount() {
        UtilityRebiller x = new UtilityRebiller();
        Checks.setTariff(x, 99, 99, 99, 99, 99, 99);
        for (int account = 0; account < 2; account++) {
            Checks.readPeriod(x, account, 0, 999, 999, 999, 999, 999, 999, 999, 999);
        }
        for (int period = 0; period < 6; period++) {
            Checks.due("close()", x.close(), period);
            Checks.due("greatest: amount(0, " + period + ")", x.amount(0, period), 1483317);
            Checks.due("greatest: balance(1)", x.balance(1), 1483317 * (period + 1));
        }
    }

    /** "The calls below change nothing that any call answers": each at the ends of its ranges and outside. */
    private static void askingChangesNothing() {
        int[] any = {Integer.MIN_VALUE, -1, 0, 1, 2, 5, 6, 7, 8, 47, 48, Integer.MAX_VALUE};
        Refusals.inEveryState("asking with any second argument", 0, x -> {
            for (int b : any) {
                x.usage(0, b);
                x.usage(1, b);
                x.amount(0, b);
                x.amount(1, b);
                x.lineAmount(1, b);
                x.linePeriod(0, b);
            }
            return 0;
        });
        Refusals.inEveryState("asking with any account", 0, x -> {
            for (int a : any) {
                x.usage(a, 0);
                x.amount(a, 0);
                x.balance(a);
                x.lines(a);
                x.lineAmount(a, 0);
                x.linePeriod(a, 0);
            }
            return 0;
        });
    }

    /** Period 2 of account 0 with a read of 0 in all slots but one. */
    private static UtilityRebiller oneSlotUsed(int slot, int usage) {
        UtilityRebiller x = new UtilityRebiller();
        Checks.readPeriod(x, 0, 2, 0, 0, 0, 0, 0, 0, 0, 0);
        x.read(0, 16 + slot, usage);
        return x;
    }
}
