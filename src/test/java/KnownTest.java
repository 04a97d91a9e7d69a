/** Promises 16 to 18: known, ways, canPay. */
public final class KnownTest {
    private static final int NO_SUCH = -1, BAD_VALUE = -2;
    private static final Due T = new Due("KnownTest");

    public static void main(String[] args) {
        errors();
        firstQuestions();
        twoPlayers();
        narrowRanges();
        ofFullPurses();
        afterPayments();
        T.end();
    }

    private static void errors() {
        PurseAuction x = new PurseAuction();
        T.due("16: no player", x.known(3, 5), NO_SUCH);
        T.due("16: no player -1", x.known(-1, 0), NO_SUCH);
        T.due("16: what 5", x.known(0, 5), BAD_VALUE);
        T.due("16: what -1", x.known(0, -1), BAD_VALUE);
        T.due("18: no player", x.canPay(3, 301), NO_SUCH);
        T.due("18: no player -1", x.canPay(-1, 0), NO_SUCH);
        T.due("18: amount -1", x.canPay(0, -1), BAD_VALUE);
        T.due("18: amount 301", x.canPay(0, 301), BAD_VALUE);
    }

    /** Each answer counts anew, whatever was asked before. */
    private static void firstQuestions() {
        int[] due = {0, 300, 0, 200, 100};
        for (int what = 0; what < 5; what++) {
            PurseAuction x = new PurseAuction();
            x.setUp(2);
            T.due("16: first of all, " + what, x.known(1, what), due[what]);
            x.fill(0, 50);
            x.fill(1, 50);
            x.ask(0, 40);
            T.due("16: least of 1", x.known(1, 2), 0);
            x.ask(1, 40);
            T.due("16: greatest of 0", x.known(0, 3), 60);
            T.due("16: least of 0", x.known(0, 2), 40);
        }
    }

    private static void twoPlayers() {
        PurseAuction x = new PurseAuction();
        x.setUp(2);
        T.due("17: 0 to 200", x.ways(), 201);
        T.due("16: least", x.known(0, 2), 0);
        T.due("16: greatest", x.known(0, 3), 200);
        T.due("16: average", x.known(0, 4), 100);
        T.due("18: 0", x.canPay(0, 0), 201);
        T.due("18: 1", x.canPay(0, 1), 200);
        T.due("18: 200", x.canPay(1, 200), 1);
        T.due("18: 201", x.canPay(1, 201), 0);
        T.due("18: 300", x.canPay(1, 300), 0);
        x.ask(1, 100);
        T.due("17: 100 to 200", x.ways(), 101);
        T.due("16: the other one's greatest known", x.known(0, 1), 300);
        T.due("16: the other one's greatest", x.known(0, 3), 100);
        T.due("16: the other one's average", x.known(0, 4), 50);
        T.due("16: average", x.known(1, 4), 150);
        x.fill(0, 300);
        x.fill(1, 300);
        T.due("17: one way", x.ways(), 1);
        T.due("16: least of a full purse", x.known(0, 2), 300);
        T.due("18: 300", x.canPay(0, 300), 1);
        x.fill(0, 0);
        x.fill(1, 0);
        T.due("17: one way, empty", x.ways(), 1);
        T.due("16: greatest of an empty purse", x.known(1, 3), 0);
        T.due("18: 1", x.canPay(0, 1), 0);
    }

    /** Seat 0 has 2 to 4, seat 1 has 0 to 2, seat 2 has 1 to 2; together 5: 2+1+2, 2+2+1, 3+0+2, 3+1+1, 4+0+1. */
    private static void narrowRanges() {
        PurseAuction x = new PurseAuction();
        x.fill(0, 3);
        x.fill(1, 1);
        x.fill(2, 1);
        x.ask(0, 2);
        x.ask(0, 5);
        x.ask(1, 3);
        x.ask(2, 1);
        x.ask(2, 3);
        T.due("17: ways", x.ways(), 5);
        T.due("16: least of 0", x.known(0, 2), 2);
        T.due("16: greatest of 0", x.known(0, 3), 4);
        T.due("16: average of 0", x.known(0, 4), 14 / 5);
        T.due("16: average of 1", x.known(1, 4), 4 / 5);
        T.due("16: average of 2", x.known(2, 4), 7 / 5);
        T.due("18: seat 0 has 3", x.canPay(0, 3), 3);
        T.due("18: seat 0 has 4", x.canPay(0, 4), 1);
        T.due("18: seat 0 has 5", x.canPay(0, 5), 0);
        T.due("18: seat 1 has 1", x.canPay(1, 1), 3);
        T.due("18: seat 1 has 2", x.canPay(1, 2), 1);
        T.due("18: seat 2 has 2", x.canPay(2, 2), 2);
        T.due("18: seat 2 has 0", x.canPay(2, 0), 5);
    }

    private static void ofFullPurses() {
        PurseAuction x = new PurseAuction();
        x.set(PurseAuction.START, 300);
        x.setUp(6);
        T.due("17: all are full", x.ways(), 1);
        x.fill(5, 298);
        // 2 missing amounts fall on 6 purses: 6 * 7 / 2 ways.
        T.due("17: 2 are missing", x.ways(), 21);
        T.due("16: least", x.known(3, 2), 298);
        T.due("16: greatest", x.known(3, 3), 300);
        T.due("16: average", x.known(3, 4), 299);
        T.due("18: 300", x.canPay(0, 300), 15);
        x.set(PurseAuction.START, 150);
        x.setUp(6);
        T.due("17: more than an int holds", x.ways(), 1358930813611L);
        T.due("16: average", x.known(5, 4), 150);
        T.due("18: all ways", x.canPay(4, 0), 1358930813611L);
    }

    private static void afterPayments() {
        PurseAuction x = new PurseAuction();
        x.setUp(2);
        x.lot(0, 10);
        x.lot(0, 10);
        x.ask(0, 150);
        x.ask(1, 120);
        x.begin(PurseAuction.FALLING, 90);
        x.bid(0, 90);
        x.pass(1);
        // Seat 0 was 90 to 149, seat 1 0 to 119; 90 are paid, and 110 are left.
        T.due("16: least", x.known(0, 0), 0);
        T.due("16: greatest", x.known(0, 1), 59);
        T.due("16: of seat 1", x.known(1, 1), 119);
        T.due("17: ways", x.ways(), 60);
        T.due("16: least in any way", x.known(1, 2), 51);
        T.due("16: greatest in any way", x.known(1, 3), 110);
        T.due("18: 100", x.canPay(1, 100), 11);
    }
}
