import java.util.ArrayList;
import java.util.List;
import java.util.Map;
import java.util.TreeMap;

/** The document again, word by word, with the Java library and the whole ledger: what a run is held against. */
final class Model {
    private record Line(int period, int amount) {
    }

    private final List<Map<Integer, Integer>> reads = List.of(new TreeMap<>(), new TreeMap<>());
    private final List<List<Line>> ledgers = List.of(new ArrayList<>(), new ArrayList<>());
    private final List<int[]> closedTariffs = new ArrayList<>();
    private final int[] tariff = new int[6];

    /** Calls are numbered as the methods stand in the document; arguments that a call does not take are left. */
    int call(int method, int a, int b, int c) {
        return switch (method) {
            case 0 -> tariff(a, b);
            case 1 -> read(a, b, c);
            case 2 -> unread(a, b);
            case 3 -> close();
            case 4 -> badAccount(a) ? -1 : badInterval(b) ? -2 : usage(a, b);
            case 5 -> badAccount(a) ? -1 : b < 0 || b > 5 ? -8 : amount(a, b);
            case 6 -> badAccount(a) ? 0 : ledgers.get(a).stream().mapToInt(Line::amount).sum();
            case 7 -> badAccount(a) ? -1 : ledgers.get(a).size();
            case 8 -> noLine(a, b) ? 0 : line(a, b).amount();
            default -> noLine(a, b) ? -8 : line(a, b).period();
        };
    }

    private int tariff(int item, int rate) {
        if (item < 0 || item > 5) {
            return -4;
        }
        if (rate < 0 || rate > 99) {
            return -5;
        }
        int old = tariff[item];
        tariff[item] = rate;
        return old;
    }

    private int read(int account, int interval, int usage) {
        if (badAccount(account)) {
            return -1;
        }
        if (badInterval(interval)) {
            return -2;
        }
        if (usage < 0 || usage > 999) {
            return -3;
        }
        List<Integer> before = closedAmounts(account);
        reads.get(account).put(interval, usage);
        return billAnew(account, before);
    }

    private int unread(int account, int interval) {
        if (badAccount(account)) {
            return -1;
        }
        if (badInterval(interval)) {
            return -2;
        }
        if (!reads.get(account).containsKey(interval)) {
            return -7;
        }
        List<Integer> before = closedAmounts(account);
        reads.get(account).remove(interval);
        return billAnew(account, before);
    }

    private int close() {
        int period = closedTariffs.size();
        if (period == 6) {
            return -6;
        }
        closedTariffs.add(tariff.clone());
        for (int account = 0; account < 2; account++) {
            ledgers.get(account).add(new Line(period, amount(account, period)));
        }
        return period;
    }

    private List<Integer> closedAmounts(int account) {
        List<Integer> amounts = new ArrayList<>();
        for (int period = 0; period < closedTariffs.size(); period++) {
            amounts.add(amount(account, period));
        }
        return amounts;
    }

    private int billAnew(int account, List<Integer> before) {
        List<Integer> after = closedAmounts(account);
        int count = 0;
        for (int period = 0; period < after.size(); period++) {
            if (!after.get(period).equals(before.get(period))) {
                ledgers.get(account).add(new Line(period, -before.get(period)));
                ledgers.get(account).add(new Line(period, after.get(period)));
                count++;
            }
        }
        return count;
    }

    private int usage(int account, int interval) {
        Map<Integer, Integer> kept = reads.get(account);
        if (kept.containsKey(interval)) {
            return kept.get(interval);
        }
        int slot = interval % 8;
        int period = interval / 8;
        for (int earlier = period - 1; earlier >= 0; earlier--) {
            if (kept.containsKey(earlier * 8 + slot)) {
                return kept.get(earlier * 8 + slot);
            }
        }
        return (int) Math.floor(kept.entrySet().stream().filter(read -> read.getKey() / 8 == period)
                .mapToInt(Map.Entry::getValue).average().orElse(0));
    }

    private int amount(int account, int period) {
        int[] t = period < closedTariffs.size() ? closedTariffs.get(period) : tariff;
        int[] u = new int[8];
        int greatest = 0;
        int sum = 0;
        for (int slot = 0; slot < 8; slot++) {
            u[slot] = usage(account, period * 8 + slot);
            greatest = Math.max(greatest, u[slot]);
            sum += u[slot];
        }
        int energy = (u[0] + u[1] + u[2]) * t[0] + (u[3] + u[4]) * t[1] + (u[5] + u[6] + u[7]) * t[2];
        int surcharge = Math.max(0, sum - 2000) * t[4];
        return Math.max(energy + greatest * t[3] + surcharge, t[5] * 1000);
    }

    private boolean noLine(int account, int back) {
        return badAccount(account) || back < 0 || back > 7 || back >= ledgers.get(account).size();
    }

    private Line line(int account, int back) {
        List<Line> ledger = ledgers.get(account);
        return ledger.get(ledger.size() - 1 - back);
    }

    private static boolean badAccount(int account) {
        return account != 0 && account != 1;
    }

    private static boolean badInterval(int interval) {
        return interval < 0 || interval > 47;
    }
}
