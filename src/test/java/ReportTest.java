/** Promises 13 to 15: player, about, count. */
public final class ReportTest {
    private static final int NO_SUCH = -1, BAD_VALUE = -2, NONE = -6;
    private static final int OPEN = PurseAuction.OPEN, SEALED = PurseAuction.SEALED, FALLING = PurseAuction.FALLING;
    private static final Due T = new Due("ReportTest");

    public static void main(String[] args) {
        playerErrors();
        values();
        rainbow();
        sharedValues();
        places();
        limits();
        rainbowLimit();
        bidsAndOuts();
        about();
        countErrors();
        countOpen();
        countOthers();
        T.end();
    }

    private static PurseAuction withColours(int players, int... colours) {
        PurseAuction x = new PurseAuction();
        x.setUp(players);
        for (int colour : colours) x.lot(colour, 10);
        return x;
    }

    /** Sells the next lot for an amount. */
    private static void sell(PurseAuction x, int player, int amount) {
        x.begin(FALLING, amount);
        x.bid(player, amount);
        T.due("sold", x.pass(0), 1 << player);
    }

    private static void playerErrors() {
        PurseAuction x = new PurseAuction();
        T.due("13: no player", x.player(3, 0), NO_SUCH);
        T.due("13: no player ahead of no number", x.player(-1, 10), NO_SUCH);
        T.due("13: what 10", x.player(0, 10), BAD_VALUE);
        T.due("13: what -1", x.player(0, -1), BAD_VALUE);
        T.due("13: what MIN", x.player(0, Integer.MIN_VALUE), BAD_VALUE);
    }

    private static void values() {
        PurseAuction x = withColours(2, 0, 1, 0, 0, 2);
        sell(x, 0, 7);
        T.due("13: purse", x.player(0, 0), 93);
        T.due("13: paid", x.player(0, 2), 7);
        T.due("13: a lot", x.player(0, 3), 10);
        sell(x, 0, 4);
        T.due("13: two colours", x.player(0, 3), 20);
        T.due("13: paid twice", x.player(0, 2), 11);
        sell(x, 0, 1);
        T.due("13: two of a colour", x.player(0, 3), 30 + 4);
        sell(x, 0, 1);
        T.due("13: three of a colour", x.player(0, 3), 40 + 4 * 3);
        T.due("13: score", x.player(0, 4), 52 + 87 / 5);
        T.due("13: owned", x.player(0, 6), 15);
        x.set(PurseAuction.SET, 0);
        T.due("13: SET 0", x.player(0, 3), 40);
        x.set(PurseAuction.SET, 20);
        T.due("13: SET 20", x.player(0, 3), 100);
        T.due("13: the last lot for the other", x.player(1, 6), 0);
        x.last();
        T.due("13: the smallest purse owns all", x.player(0, 6), 31);
    }

    private static void rainbow() {
        PurseAuction x = withColours(2, 0, 1, 2, 2, 3, 4, 5);
        for (int lot = 0; lot < 4; lot++) sell(x, 0, 1);
        T.due("13: three colours", x.player(0, 3), 40 + 4);
        sell(x, 0, 1);
        T.due("13: four colours", x.player(0, 3), 50 + 4 + 15);
        sell(x, 0, 1);
        T.due("13: five colours", x.player(0, 3), 60 + 4 + 15);
        x.set(PurseAuction.RAINBOW, 100);
        T.due("13: RAINBOW 100", x.player(0, 3), 64 + 100);
    }

    private static void sharedValues() {
        PurseAuction x = new PurseAuction();
        x.lot(0, 11);
        x.lot(0, 9);
        x.lot(1, 1);
        for (int lot = 0; lot < 2; lot++) {
            x.begin(SEALED, 5);
            x.bid(0, 5);
            x.bid(1, 5);
            x.bid(2, 0);
        }
        T.due("13: each lot rounded down", x.player(0, 3), 5 + 4 + 4);
        T.due("13: shared by both", x.player(1, 6), 3);
        T.due("13: not by seat 2", x.player(2, 3), 0);
    }

    private static void places() {
        PurseAuction x = withColours(4, 0, 0, 1, 1);
        T.due("13: of the same score, seat 0", x.player(0, 5), 1);
        T.due("13: of the same score, seat 3", x.player(3, 5), 4);
        sell(x, 2, 5);
        T.due("13: first", x.player(2, 5), 1);
        T.due("13: second", x.player(0, 5), 2);
        T.due("13: third", x.player(1, 5), 3);
        T.due("13: fourth", x.player(3, 5), 4);
        sell(x, 0, 60);
        T.due("13: behind all", x.player(0, 4), 10 + 40 / 5);
        T.due("13: place 4", x.player(0, 5), 4);
        T.due("13: place 3", x.player(3, 5), 3);
    }

    private static void limits() {
        PurseAuction x = new PurseAuction();
        T.due("13: no next lot", x.player(0, 7), NONE);
        x.lot(0, 17);
        x.lot(0, 50);
        T.due("13: as much as it adds", x.player(0, 7), 17);
        x.embolden(0, 15);
        T.due("13: rounded down", x.player(0, 7), 25);
        x.embolden(0, 0);
        T.due("13: not bold", x.player(0, 7), 0);
        x.embolden(0, 30);
        T.due("13: three times", x.player(0, 7), 51);
        x.fill(0, 50);
        T.due("13: not more than the purse", x.player(0, 7), 50);
        x.fill(0, 300);
        x.begin(FALLING, 1);
        T.due("13: in an auction", x.player(0, 7), 51);
        x.bid(0, 1);
        x.pass(0);
        T.due("13: of the last lot", x.player(1, 7), 50);
        T.due("13: with one of its colour", x.player(0, 7), 54 * 3);
        x.last();
        T.due("13: behind the last lot", x.player(0, 7), NONE);
    }

    private static void rainbowLimit() {
        PurseAuction x = withColours(2, 0, 1, 2, 2, 3, 3, 4);
        int[] due = {10, 10, 10, 10 + 4, 10 + 15, 10 + 4, 10};
        for (int lot = 0; lot < 6; lot++) {
            T.due("13: limit for lot " + lot, x.player(0, 7), due[lot]);
            sell(x, 0, 1);
        }
        T.due("13: limit for lot 6", x.player(0, 7), due[6]);
    }

    private static void bidsAndOuts() {
        PurseAuction x = withColours(3, 0, 0, 0, 0);
        T.due("13: no auction", x.player(0, 8), NONE);
        T.due("13: nobody is out", x.player(0, 9), 0);
        x.begin(OPEN, 2);
        T.due("13: no bid", x.player(0, 8), NONE);
        x.bid(0, 2);
        x.pass(1);
        x.bid(2, 7);
        x.bid(0, 12);
        T.due("13: the latest bid", x.player(0, 8), 12);
        T.due("13: of one who is out", x.player(1, 8), NONE);
        T.due("13: out", x.player(1, 9), 1);
        T.due("13: not out", x.player(2, 9), 0);
        T.due("13: ends", x.pass(2), 1);
        T.due("13: behind it", x.player(0, 8), NONE);
        T.due("13: nobody is out behind it", x.player(1, 9), 0);
        x.begin(SEALED, 5);
        x.bid(2, 0);
        T.due("13: handed in", x.player(2, 8), 0);
        T.due("13: not handed in", x.player(0, 8), NONE);
        T.due("13: SEALED has no outs", x.player(1, 9), 0);
        x.bid(0, 0);
        x.bid(1, 0);
        x.begin(FALLING, 9);
        x.pass(1);
        x.bid(1, 4);
        T.due("13: claimed", x.player(1, 8), 4);
        T.due("13: not claimed", x.player(0, 8), NONE);
        T.due("13: FALLING has no outs", x.player(1, 9), 0);
    }

    private static void about() {
        PurseAuction x = new PurseAuction();
        T.due("14: no lot", x.about(0, 0), NO_SUCH);
        x.lot(4, 33);
        x.lot(5, 44);
        x.lot(3, 22);
        T.due("14: no lot 3", x.about(3, 5), NO_SUCH);
        T.due("14: no lot -1", x.about(-1, 0), NO_SUCH);
        T.due("14: what 5", x.about(0, 5), BAD_VALUE);
        T.due("14: what -1", x.about(0, -1), BAD_VALUE);
        T.due("14: colour", x.about(0, 0), 4);
        T.due("14: worth", x.about(1, 1), 44);
        T.due("14: no owners yet", x.about(0, 2), 0);
        T.due("14: no price yet", x.about(0, 3), NONE);
        T.due("14: not sold yet", x.about(0, 4), 0);
        x.begin(SEALED, 1);
        T.due("14: in the auction", x.about(0, 4), 0);
        x.bid(0, 9);
        x.bid(1, 9);
        x.bid(2, 9);
        T.due("14: owners", x.about(0, 2), 7);
        T.due("14: price of all together", x.about(0, 3), 9);
        T.due("14: sold", x.about(0, 4), 1);
        x.begin(SEALED, 10);
        x.bid(0, 9);
        x.bid(1, 9);
        x.bid(2, 9);
        T.due("14: no owners", x.about(1, 2), 0);
        T.due("14: no price", x.about(1, 3), NONE);
        T.due("14: unsold", x.about(1, 4), 2);
        x.last();
        T.due("14: free", x.about(2, 3), 0);
        T.due("14: owner of the last one", x.about(2, 2), 4);
        T.due("14: the last one is sold", x.about(2, 4), 1);
    }

    private static void countErrors() {
        PurseAuction x = new PurseAuction();
        T.due("15: what 19", x.count(19), BAD_VALUE);
        T.due("15: what -1", x.count(-1), BAD_VALUE);
        T.due("15: what MAX", x.count(Integer.MAX_VALUE), BAD_VALUE);
        T.due("15: what MIN", x.count(Integer.MIN_VALUE), BAD_VALUE);
        for (int what = 5; what < 10; what++) T.due("15: no auction, " + what, x.count(what), NONE);
    }

    private static void counts(PurseAuction x, String when, int... due) {
        for (int what = 0; what < due.length; what++) T.due("15: " + when + ", " + what, x.count(what), due[what]);
    }

    private static void countOpen() {
        PurseAuction x = withColours(3, 0, 0, 0);
        counts(x, "at first", 3, 3, 0, 0, 0, NONE, NONE, NONE, NONE, NONE, 300, 0, 0, 100, 5, 12, 4, 15, 5);
        x.begin(OPEN, 2);
        counts(x, "begun", 3, 3, 0, 0, 1, OPEN, NONE, NONE, 0, 0, 300, 0);
        x.pass(0);
        counts(x, "passed", 3, 3, 0, 0, 1, OPEN, NONE, NONE, 1, 0, 300, 0);
        x.bid(1, 20);
        counts(x, "bid", 3, 3, 0, 0, 1, OPEN, 20, 1, 2, 1, 300, 0);
        x.bid(2, 30);
        counts(x, "two bids", 3, 3, 0, 0, 1, OPEN, 30, 2, 1, 2, 300, 0);
        x.pass(1);
        counts(x, "sold", 3, 3, 1, 1, 0, NONE, NONE, NONE, NONE, NONE, 270, 30);
    }

    private static void countOthers() {
        PurseAuction x = withColours(3, 0, 0, 0);
        x.begin(SEALED, 2);
        x.bid(1, 0);
        x.bid(2, 60);
        counts(x, "SEALED", 3, 3, 0, 0, 1, SEALED, NONE, NONE, NONE, 2, 300, 0);
        x.bid(0, 61);
        x.begin(FALLING, 40);
        counts(x, "FALLING", 3, 3, 1, 1, 1, FALLING, 40, NONE, NONE, 0, 239, 61);
        x.pass(0);
        x.bid(2, 35);
        counts(x, "claimed", 3, 3, 1, 1, 1, FALLING, 35, NONE, NONE, 1, 239, 61);
        x.pass(0);
        x.last();
        Due.write(x, "m,m,x");
        counts(x, "at the end", 3, 3, NONE, 0, 0, NONE, NONE, NONE, NONE, NONE, 204, 96, 5);
    }
}
