/** Promise 12: the order in which wrong arguments are told, and where linePeriod answers BAD_PERIOD. */
public final class OrderTest {
    public static void main(String[] args) {
        tariff();
        unread();
        usage();
        amount();
        linePeriodFollowsLineAmount();
        Checks.end();
    }

    private static void tariff() {
        UtilityRebiller x = new UtilityRebiller();
        Checks.due("tariff(6, 100)", x.tariff(6, 100), UtilityRebiller.BAD_ITEM);
        Checks.due("tariff(-1, -1)", x.tariff(-1, -1), UtilityRebiller.BAD_ITEM);
        Checks.due("tariff(5, 100)", x.tariff(5, 100), UtilityRebiller.BAD_RATE);
    }

    private static void unread() {
        UtilityRebiller x = new UtilityRebiller();
        Checks.due("unread(2, 48)", x.unread(2, 48), UtilityRebiller.BAD_ACCOUNT);
        Checks.due("unread(-1, 0)", x.unread(-1, 0), UtilityRebiller.BAD_ACCOUNT);
        Checks.due("unread(0, 48)", x.unread(0, 48), UtilityRebiller.BAD_INTERVAL);
        Checks.due("unread(0, 47)", x.unread(0, 47), UtilityRebiller.NO_READ);
    }

    private static void usage() {
        UtilityRebiller x = new UtilityRebiller();
        Checks.due("usage(2, 48)", x.usage(2, 48), UtilityRebiller.BAD_ACCOUNT);
        Checks.due("usage(-1, -1)", x.usage(-1, -1), UtilityRebiller.BAD_ACCOUNT);
        Checks.due("usage(1, 48)", x.usage(1, 48), UtilityRebiller.BAD_INTERVAL);
    }

    private static void amount() {
        UtilityRebiller x = new UtilityRebiller();
        Checks.due("amount(2, 6)", x.amount(2, 6), UtilityRebiller.BAD_ACCOUNT);
        Checks.due("amount(-1, -1)", x.amount(-1, -1), UtilityRebiller.BAD_ACCOUNT);
        Checks.due("amount(1, 6)", x.amount(1, 6), UtilityRebiller.BAD_PERIOD);
    }

    /** With a least amount no line is 0, so that a 0 can only tell that there is no line. */
    private static void linePeriodFollowsLineAmount() {
        for (int closed = 0; closed <= 6; closed++) {
            UtilityRebiller x = new UtilityRebiller();
            x.tariff(5, 1);
            for (int n = 0; n < closed; n++) {
                x.close();
            }
            for (int account = -1; account <= 2; account++) {
                for (int back = -1; back <= 8; back++) {
                    boolean line = account >= 0 && account <= 1 && back >= 0 && back < closed;
                    String call = closed + " closed: (" + account + ", " + back + ")";
                    Checks.due("lineAmount, " + call, x.lineAmount(account, back), line ? 1000 : 0);
                    Checks.due("linePeriod, " + call, x.linePeriod(account, back),
                            line ? closed - 1 - back : UtilityRebiller.BAD_PERIOD);
                }
            }
        }
    }
}
