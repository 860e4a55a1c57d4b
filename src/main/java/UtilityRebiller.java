public final class UtilityRebiller {
    public static final int BAD_ACCOUNT = -1;
    public static final int BAD_INTERVAL = -2;
    public static final int BAD_READ = -3;
    public static final int BAD_ITEM = -4;
    public static final int BAD_RATE = -5;
    public static final int ALL_CLOSED = -6;
    public static final int NO_READ = -7;
    public static final int BAD_PERIOD = -8;

    private static final int ACCOUNTS = 2;
    private static final int PERIODS = 6;
    private static final int SLOTS = 8;
    private static final int INTERVALS = 48;
    private static final int READ_CELLS = 96;
    private static final int BILL_CELLS = 12;
    private static final int GREATEST_READ = 999;

    private static final int ITEMS = 6;
    private static final int DEMAND_ITEM = 3;
    private static final int SURCHARGE_ITEM = 4;
    private static final int LEAST_ITEM = 5;
    private static final int GREATEST_RATE = 99;
    private static final int SURCHARGE_ABOVE = 2000;
    private static final int LEAST_UNIT = 1000;

    // Rows 0 to 5 are the tariffs of the closed periods, row 6 is the tariff as it is now:
    // held together, so that an amount is worked out the same way under either.
    private static final int CURRENT_ROW = 6;
    private static final int TARIFF_CELLS = 42;

    // No call can ask for a line further back than the eighth, so older ones are written over.
    private static final int KEPT_LINES = 8;
    private static final int KEPT_MASK = 7;
    private static final int LINE_CELLS = 16;
    private static final int NO_LINE = -1;

    private final boolean[] hasRead = new boolean[READ_CELLS];
    private final int[] reads = new int[READ_CELLS];
    private final int[] tariffs = new int[TARIFF_CELLS];
    private final int[] billed = new int[BILL_CELLS];
    private final int[] lineAmounts = new int[LINE_CELLS];
    private final int[] linePeriods = new int[LINE_CELLS];
    private final int[] lineCounts = new int[ACCOUNTS];
    private final int[] balances = new int[ACCOUNTS];
    private int closedPeriods;

    public UtilityRebiller() {
        closedPeriods = 0;
    }

    public int tariff(int item, int rate) {
        if (item < 0 || item >= ITEMS) {
            return BAD_ITEM;
        }
        if (rate < 0 || rate > GREATEST_RATE) {
            return BAD_RATE;
        }
        int cell = CURRENT_ROW * ITEMS + item;
        int old = tariffs[cell];
        tariffs[cell] = rate;
        return old;
    }

    public int read(int account, int interval, int usage) {
        if (!isAccount(account)) {
            return BAD_ACCOUNT;
        }
        if (!isInterval(interval)) {
            return BAD_INTERVAL;
        }
        if (usage < 0 || usage > GREATEST_READ) {
            return BAD_READ;
        }
        int cell = account * INTERVALS + interval;
        hasRead[cell] = true;
        reads[cell] = usage;
        return billAnew(account);
    }

    public int unread(int account, int interval) {
        if (!isAccount(account)) {
            return BAD_ACCOUNT;
        }
        if (!isInterval(interval)) {
            return BAD_INTERVAL;
        }
        int cell = account * INTERVALS + interval;
        if (!hasRead[cell]) {
            return NO_READ;
        }
        hasRead[cell] = false;
        return billAnew(account);
    }

    public int close() {
        if (closedPeriods >= PERIODS) {
            return ALL_CLOSED;
        }
        int period = closedPeriods;
        fixTariff(period);
        closedPeriods = period + 1;
        for (int account = 0; account < ACCOUNTS; account++) {
            int due = amountDue(account, period);
            billed[account * PERIODS + period] = due;
            addLine(account, period, due);
        }
        return period;
    }

    public int usage(int account, int interval) {
        if (!isAccount(account)) {
            return BAD_ACCOUNT;
        }
        if (!isInterval(interval)) {
            return BAD_INTERVAL;
        }
        return usageIn(account, interval);
    }

    public int amount(int account, int period) {
        if (!isAccount(account)) {
            return BAD_ACCOUNT;
        }
        if (period < 0 || period >= PERIODS) {
            return BAD_PERIOD;
        }
        return amountDue(account, period);
    }

    public int balance(int account) {
        return isAccount(account) ? balances[account] : 0;
    }

    public int lines(int account) {
        return isAccount(account) ? lineCounts[account] : BAD_ACCOUNT;
    }

    public int lineAmount(int account, int back) {
        int cell = lineCell(account, back);
        return cell == NO_LINE ? 0 : lineAmounts[cell];
    }

    public int linePeriod(int account, int back) {
        int cell = lineCell(account, back);
        return cell == NO_LINE ? BAD_PERIOD : linePeriods[cell];
    }

    private static boolean isAccount(int account) {
        return account >= 0 && account < ACCOUNTS;
    }

    private static boolean isInterval(int interval) {
        return interval >= 0 && interval < INTERVALS;
    }

    private void fixTariff(int period) {
        for (int item = 0; item < ITEMS; item++) {
            tariffs[period * ITEMS + item] = tariffs[CURRENT_ROW * ITEMS + item];
        }
    }

    private int billAnew(int account) {
        int changed = 0;
        for (int period = 0; period < closedPeriods; period++) {
            int cell = account * PERIODS + period;
            int old = billed[cell];
            int due = amountDue(account, period);
            if (due != old) {
                addLine(account, period, -old);
                addLine(account, period, due);
                billed[cell] = due;
                changed++;
            }
        }
        return changed;
    }

    private int usageIn(int account, int interval) {
        int first = account * INTERVALS;
        // The interval's own read and the ones of earlier periods are one search, the latest first.
        for (int same = interval; same >= 0; same -= SLOTS) {
            if (hasRead[first + same]) {
                return reads[first + same];
            }
        }
        return meanRead(account, interval / SLOTS);
    }

    private int meanRead(int account, int period) {
        int first = account * INTERVALS + period * SLOTS;
        int sum = 0;
        int count = 0;
        for (int slot = 0; slot < SLOTS; slot++) {
            if (hasRead[first + slot]) {
                sum += reads[first + slot];
                count++;
            }
        }
        return count == 0 ? 0 : sum / count;
    }

    private int amountDue(int account, int period) {
        int row = (period < closedPeriods ? period : CURRENT_ROW) * ITEMS;
        int energy = 0;
        int greatest = 0;
        int sum = 0;
        for (int slot = 0; slot < SLOTS; slot++) {
            int used = usageIn(account, period * SLOTS + slot);
            int item = energyItem(slot);
            energy += used * tariffs[row + item];
            sum += used;
            if (used > greatest) {
                greatest = used;
            }
        }
        int demand = greatest * tariffs[row + DEMAND_ITEM];
        int above = sum > SURCHARGE_ABOVE ? sum - SURCHARGE_ABOVE : 0;
        int total = energy + demand + above * tariffs[row + SURCHARGE_ITEM];
        int least = tariffs[row + LEAST_ITEM] * LEAST_UNIT;
        return total < least ? least : total;
    }

    private static int energyItem(int slot) {
        if (slot <= 2) {
            return 0;
        }
        return slot <= 4 ? 1 : 2;
    }

    private void addLine(int account, int period, int amount) {
        // A mask, not a remainder: it stays a good index even if the count ever wraps around.
        int cell = account * KEPT_LINES + (lineCounts[account] & KEPT_MASK);
        lineAmounts[cell] = amount;
        linePeriods[cell] = period;
        lineCounts[account]++;
        balances[account] += amount;
    }

    private int lineCell(int account, int back) {
        if (!isAccount(account) || back < 0 || back >= KEPT_LINES || back >= lineCounts[account]) {
            return NO_LINE;
        }
        int index = lineCounts[account] - 1 - back;
        return account * KEPT_LINES + (index & KEPT_MASK);
    }
}
