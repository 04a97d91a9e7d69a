/** Promises 7 to 12: begin, bid, pass, move, last, ask. */
public final class AuctionTest {
    private static final int NO_SUCH = -1, BAD_VALUE = -2, NOT_POSSIBLE = -5, NONE = -6;
    private static final int OPEN = PurseAuction.OPEN, SEALED = PurseAuction.SEALED, FALLING = PurseAuction.FALLING;
    private static final Due T = new Due("AuctionTest");

    public static void main(String[] args) {
        begin();
        startersFollow();
        openBids();
        openTurns();
        openStops();
        openLastOne();
        sealedBids();
        sealedTies();
        sealedReserve();
        fallingClaims();
        fallingWholePurse();
        fallingOrder();
        sixPlayers();
        fallingToNothing();
        passErrors();
        openMoves();
        sealedMoves();
        fallingMoves();
        movesMixed();
        last();
        lastTies();
        ask();
        T.end();
    }

    private static PurseAuction withLots(int players, int... worths) {
        PurseAuction x = new PurseAuction();
        x.setUp(players);
        for (int worth : worths) x.lot(0, worth);
        return x;
    }

    private static void begin() {
        PurseAuction x = new PurseAuction();
        T.due("7: no lot", x.begin(OPEN, 1), NOT_POSSIBLE);
        T.due("7: no lot, bad value", x.begin(OPEN, 0), BAD_VALUE);
        x.lot(0, 5);
        T.due("7: the last lot", x.begin(OPEN, 1), NOT_POSSIBLE);
        x.lot(0, 5);
        x.lot(0, 5);
        T.due("7: mode -1", x.begin(-1, 1), BAD_VALUE);
        T.due("7: mode 3", x.begin(3, 1), BAD_VALUE);
        T.due("7: reserve 0", x.begin(OPEN, 0), BAD_VALUE);
        T.due("7: reserve 301", x.begin(FALLING, 301), BAD_VALUE);
        T.due("7: nothing begun", x.count(4), 0);
        T.due("7: reserve 300", x.begin(FALLING, 300), 0);
        T.due("7: goes on", x.count(4), 1);
        T.due("7: again", x.begin(FALLING, 300), NOT_POSSIBLE);
        T.due("7: again, bad value", x.begin(3, 300), BAD_VALUE);
        x.setUp(2);
        x.lot(0, 5);
        x.lot(0, 5);
        x.lot(0, 5);
        T.due("7: reserve 1", x.begin(FALLING, 1), 0);
        T.due("7: unsold", x.pass(1), 0);
        T.due("7: the second lot", x.begin(SEALED, 1), 1);
        x.bid(0, 0);
        T.due("7: unsold", x.bid(1, 0), 0);
        T.due("7: only the last one", x.begin(SEALED, 1), NOT_POSSIBLE);
        x.last();
        T.due("7: none left", x.begin(SEALED, 1), NOT_POSSIBLE);
    }

    private static void startersFollow() {
        PurseAuction x = withLots(2, 1, 2, 3, 4);
        for (int lot = 0; lot < 3; lot++) {
            T.due("7: starter of " + lot, x.count(3), lot % 2);
            T.due("7: lot", x.begin(OPEN, 1), lot);
            T.due("7: turn in lot " + lot, x.count(8), lot % 2);
            x.pass(lot % 2);
            T.due("7: unsold", x.pass(1 - lot % 2), 0);
        }
        T.due("7: starter of the last lot", x.count(3), 1);
        x.last();
        T.due("7: starter behind the last lot", x.count(3), 0);
    }

    private static void openBids() {
        PurseAuction x = withLots(3, 20, 20);
        T.due("8: no player", x.bid(3, 10), NO_SUCH);
        T.due("8: no auction", x.bid(0, 10), NOT_POSSIBLE);
        x.begin(OPEN, 10);
        T.due("8: no player -1", x.bid(-1, 10), NO_SUCH);
        T.due("8: not the turn", x.bid(1, 10), NOT_POSSIBLE);
        T.due("8: not the turn, bad amount", x.bid(1, 0), NOT_POSSIBLE);
        T.due("8: below the reserve", x.bid(0, 9), BAD_VALUE);
        T.due("8: negative", x.bid(0, Integer.MIN_VALUE), BAD_VALUE);
        T.due("8: above the purse", x.bid(0, 101), BAD_VALUE);
        T.due("8: nothing known yet", x.known(0, 0), 0);
        T.due("8: no bids yet", x.count(9), 0);
        T.due("8: the reserve", x.bid(0, 10), NONE);
        T.due("8: known", x.known(0, 0), 10);
        T.due("8: below the step", x.bid(1, 14), BAD_VALUE);
        T.due("8: by the step", x.bid(1, 15), NONE);
        T.due("8: above the step", x.bid(2, 99), NONE);
        T.due("8: the step is above the purse", x.bid(0, 104), BAD_VALUE);
        T.due("8: whole purse is too little", x.bid(0, 100), BAD_VALUE);
        T.due("8: passes", x.pass(0), NONE);
        T.due("8: wins", x.pass(1), 4);
        T.due("8: paid", x.player(2, 0), 1);
        T.due("8: least", x.known(2, 0), 0);
        T.due("8: greatest", x.known(2, 1), 201);
        T.due("8: price", x.about(0, 3), 99);
        T.due("8: the bids stay known", x.known(1, 0), 15);
        T.due("8: ended", x.bid(0, 10), NOT_POSSIBLE);
    }

    private static void openTurns() {
        PurseAuction x = withLots(4, 20, 20, 20);
        x.begin(OPEN, 1);
        x.pass(0);
        T.due("8: turn 1", x.count(8), 1);
        x.bid(1, 1);
        x.pass(2);
        x.bid(3, 6);
        T.due("8: past one who is out", x.count(8), 1);
        T.due("8: of one who is out", x.bid(0, 11), NOT_POSSIBLE);
        x.bid(1, 11);
        T.due("8: past two who are out", x.count(8), 3);
        T.due("8: of the highest bidder", x.bid(1, 16), NOT_POSSIBLE);
        T.due("8: ends", x.pass(3), 2);
        T.due("8: sold for 11", x.about(0, 3), 11);
        x.begin(OPEN, 1);
        T.due("8: from the new starter on", x.count(8), 1);
        x.bid(1, 1);
        x.pass(2);
        x.pass(3);
        T.due("8: around the table", x.count(8), 0);
        T.due("8: seat 0 bids", x.bid(0, 6), NONE);
        T.due("8: back to seat 1", x.count(8), 1);
        T.due("8: seat 0 wins", x.pass(1), 1);
    }

    private static void openStops() {
        PurseAuction x = withLots(2, 20, 20, 20);
        x.set(PurseAuction.STOPS, 1);
        x.begin(OPEN, 3);
        T.due("8: STOPS 1", x.bid(0, 3), 1);
        x.set(PurseAuction.STOPS, 3);
        x.begin(OPEN, 3);
        T.due("8: first of 3", x.bid(1, 3), NONE);
        T.due("8: second of 3", x.bid(0, 8), NONE);
        T.due("8: third of 3", x.bid(1, 13), 2);
        T.due("8: paid", x.player(1, 2), 13);
    }

    private static void openLastOne() {
        PurseAuction x = withLots(3, 20, 20, 20);
        x.begin(OPEN, 3);
        x.pass(0);
        x.pass(1);
        T.due("8: the turn of the only one", x.count(8), 2);
        T.due("8: the only one wins at once", x.bid(2, 50), 4);
        x.begin(OPEN, 3);
        x.pass(1);
        x.pass(2);
        T.due("9: nobody bids", x.pass(0), 0);
        T.due("9: unsold", x.about(1, 4), 2);
    }

    private static void sealedBids() {
        PurseAuction x = withLots(3, 20, 20);
        x.begin(SEALED, 10);
        T.due("8: no player", x.bid(3, 0), NO_SUCH);
        T.due("8: below 0", x.bid(1, -1), BAD_VALUE);
        T.due("8: above the purse", x.bid(1, 101), BAD_VALUE);
        T.due("8: 0", x.bid(1, 0), NONE);
        T.due("8: counted", x.count(9), 1);
        T.due("8: a second one", x.bid(1, 10), NOT_POSSIBLE);
        T.due("8: a second bad one", x.bid(1, 101), NOT_POSSIBLE);
        T.due("8: the whole purse", x.bid(2, 100), NONE);
        T.due("8: not known yet", x.known(2, 0), 0);
        T.due("8: ends", x.bid(0, 20), 4);
        T.due("8: known of 0", x.known(0, 0), 20);
        T.due("8: known of 2", x.known(2, 0), 0);
        T.due("8: greatest of 2", x.known(2, 1), 200);
        T.due("8: purse of 2", x.player(2, 0), 0);
    }

    private static void sealedTies() {
        PurseAuction x = withLots(4, 20, 20, 20);
        x.begin(FALLING, 1);
        x.pass(0);
        T.due("8: starter 1", x.count(3), 1);
        x.begin(SEALED, 11);
        x.bid(0, 11);
        x.bid(3, 11);
        x.bid(2, 11);
        T.due("8: three share", x.bid(1, 10), 1 + 4 + 8);
        T.due("8: seat 2 pays 1 more", x.player(2, 2), 4);
        T.due("8: seat 3 pays 1 more", x.player(3, 2), 4);
        T.due("8: seat 0 pays the share", x.player(0, 2), 3);
        T.due("8: seat 1 pays nothing", x.player(1, 2), 0);
        T.due("8: least of 0", x.known(0, 0), 8);
        T.due("8: greatest of 0", x.known(0, 1), 297);
        T.due("8: least of 1", x.known(1, 0), 10);
        T.due("8: price", x.about(1, 3), 11);
        T.due("8: value", x.player(0, 3), 20 / 3);
    }

    private static void sealedReserve() {
        PurseAuction x = withLots(2, 20, 20, 20);
        x.begin(SEALED, 10);
        x.bid(0, 9);
        T.due("8: below the reserve", x.bid(1, 8), 0);
        T.due("8: unsold", x.about(0, 4), 2);
        T.due("8: known all the same", x.known(0, 0), 9);
        T.due("8: of both", x.known(1, 0), 8);
        T.due("8: nothing paid", x.count(11), 0);
        x.begin(SEALED, 10);
        x.bid(0, 10);
        T.due("8: at the reserve", x.bid(1, 9), 1);
        PurseAuction y = withLots(2, 20, 20);
        y.begin(SEALED, 1);
        y.bid(1, 1);
        T.due("8: both bid 1", y.bid(0, 1), 3);
        T.due("8: the first one pays it", y.player(0, 2), 1);
        T.due("8: the other nothing", y.player(1, 2), 0);
    }

    private static void fallingClaims() {
        PurseAuction x = withLots(3, 20, 20);
        x.begin(FALLING, 104);
        T.due("8: above the purse", x.bid(0, 104), BAD_VALUE);
        T.due("8: not the price", x.bid(0, 100), BAD_VALUE);
        T.due("8: no player", x.bid(3, 104), NO_SUCH);
        T.due("9: falls", x.pass(2), NONE);
        T.due("9: price", x.count(6), 99);
        T.due("8: above the price", x.bid(0, 100), BAD_VALUE);
        T.due("8: the price", x.bid(1, 99), NONE);
        T.due("8: known", x.known(1, 0), 99);
        T.due("8: claims twice", x.bid(1, 99), NOT_POSSIBLE);
        T.due("8: claims twice, bad amount", x.bid(1, 98), NOT_POSSIBLE);
        T.due("8: claims", x.count(9), 1);
        T.due("9: sold", x.pass(0), 2);
        T.due("9: paid", x.player(1, 0), 1);
        T.due("9: price", x.about(0, 3), 99);
    }

    private static void fallingWholePurse() {
        PurseAuction x = withLots(2, 20, 20);
        x.begin(FALLING, 100);
        T.due("8: a claim at the whole purse", x.bid(1, 100), NONE);
        T.due("9: sold", x.pass(0), 2);
        T.due("9: nothing left", x.player(1, 0), 0);
    }

    private static void sixPlayers() {
        PurseAuction x = withLots(6, 20, 20, 20, 20);
        x.begin(SEALED, 5);
        for (int seat = 0; seat < 5; seat++) T.due("8: seat " + seat, x.bid(seat, 7), NONE);
        T.due("8: the bids are known when all are in", x.known(0, 0), 0);
        T.due("8: all six share", x.bid(5, 7), 63);
        T.due("8: seat 0 pays 2", x.player(0, 2), 2);
        T.due("8: seat 5 pays 1", x.player(5, 2), 1);
        x.begin(OPEN, 5);
        for (int seat = 1; seat < 6; seat++) T.due("8: seat " + seat, x.bid(seat, 5 * seat), NONE);
        T.due("8: bid of seat 5", x.player(5, 8), 25);
        for (int seat = 0; seat < 4; seat++) T.due("9: seat " + seat, x.pass(seat), NONE);
        T.due("9: seat 5 wins", x.pass(4), 32);
    }

    private static void fallingOrder() {
        PurseAuction x = withLots(3, 20, 20, 20, 20);
        x.begin(FALLING, 50);
        x.bid(2, 50);
        x.bid(1, 50);
        T.due("9: the first one from seat 0 on", x.pass(0), 2);
        x.begin(FALLING, 40);
        x.bid(0, 40);
        x.bid(2, 40);
        T.due("9: the first one from seat 1 on", x.pass(0), 4);
        x.begin(FALLING, 40);
        x.bid(0, 40);
        x.bid(1, 40);
        T.due("9: the first one from seat 2 on", x.pass(0), 1);
    }

    private static void fallingToNothing() {
        PurseAuction x = withLots(2, 20, 20, 20);
        x.begin(FALLING, 6);
        T.due("9: to 1", x.pass(0), NONE);
        T.due("9: price 1", x.count(6), 1);
        T.due("9: below 1", x.pass(0), 0);
        T.due("9: unsold", x.about(0, 4), 2);
        T.due("9: ended", x.pass(0), NOT_POSSIBLE);
        x.begin(FALLING, 5);
        T.due("9: to 0", x.pass(1), 0);
    }

    private static void passErrors() {
        PurseAuction x = withLots(3, 20, 20, 20, 20);
        T.due("9: no player", x.pass(3), NO_SUCH);
        T.due("9: no player -1", x.pass(-1), NO_SUCH);
        T.due("9: no auction", x.pass(0), NOT_POSSIBLE);
        x.begin(OPEN, 5);
        T.due("9: no player, OPEN", x.pass(3), NO_SUCH);
        T.due("9: not the turn", x.pass(1), NOT_POSSIBLE);
        T.due("9: nobody is out by that", x.player(1, 9), 0);
        T.due("9: passes", x.pass(0), NONE);
        T.due("9: is out", x.player(0, 9), 1);
        T.due("9: twice", x.pass(0), NOT_POSSIBLE);
        x.bid(1, 5);
        T.due("9: ends", x.pass(2), 2);
        x.begin(SEALED, 5);
        T.due("9: SEALED", x.pass(1), NOT_POSSIBLE);
        T.due("9: no player, SEALED", x.pass(3), NO_SUCH);
        x.bid(0, 0);
        x.bid(1, 0);
        x.bid(2, 0);
        x.begin(FALLING, 10);
        T.due("9: no player, FALLING", x.pass(3), NO_SUCH);
        T.due("9: no player lets no price fall", x.count(6), 10);
    }

    private static void openMoves() {
        PurseAuction x = withLots(3, 20, 20);
        T.due("10: no auction", x.move(), NOT_POSSIBLE);
        x.embolden(1, 9);
        x.begin(OPEN, 10);
        T.due("10: bids the reserve", x.move(), NONE);
        T.due("10: bid", x.player(0, 8), 10);
        T.due("10: bids by the step", x.move(), NONE);
        T.due("10: bid", x.player(1, 8), 15);
        T.due("10: bids up to the limit", x.move(), NONE);
        T.due("10: bid", x.player(2, 8), 20);
        T.due("10: known", x.known(2, 0), 20);
        T.due("10: passes", x.move(), NONE);
        T.due("10: is out", x.player(0, 9), 1);
        T.due("10: seat 2 wins", x.move(), 4);
        T.due("10: ended", x.move(), NOT_POSSIBLE);
        PurseAuction y = withLots(2, 50, 50);
        y.fill(0, 30);
        y.begin(OPEN, 31);
        T.due("10: the purse is too small", y.move(), NONE);
        T.due("10: so passes", y.player(0, 9), 1);
        T.due("10: the other one bids", y.move(), 2);
    }

    private static void sealedMoves() {
        PurseAuction x = withLots(3, 20, 20, 20);
        x.embolden(0, 4);
        x.begin(FALLING, 1);
        x.pass(0);
        x.begin(SEALED, 9);
        T.due("10: the starter acts", x.move(), NONE);
        T.due("10: hands in the limit", x.player(1, 8), 20);
        T.due("10: the others have not", x.player(0, 8), NONE);
        T.due("10: seat 2 by itself", x.bid(2, 7), NONE);
        T.due("10: the last one", x.move(), 2);
        T.due("10: seat 0 handed in 0, not 8", x.known(0, 0), 0);
        PurseAuction y = withLots(2, 20, 20, 20);
        y.embolden(0, 5);
        y.begin(SEALED, 10);
        T.due("10: the limit is the reserve", y.move(), NONE);
        T.due("10: handed in", y.player(0, 8), 10);
    }

    private static void fallingMoves() {
        PurseAuction x = withLots(3, 20, 20, 20);
        x.embolden(0, 5);
        x.begin(FALLING, 22);
        T.due("10: nobody", x.move(), NONE);
        T.due("10: falls", x.count(6), 17);
        T.due("10: seats 1 and 2 claim", x.move(), 2);
        T.due("10: both are known", x.known(2, 0), 17);
        T.due("10: seat 0 is not", x.known(0, 0), 0);
        x.begin(FALLING, 4);
        T.due("10: the limits count", x.move(), 2);
        PurseAuction y = withLots(2, 20, 20);
        y.embolden(0, 0);
        y.embolden(1, 0);
        y.begin(FALLING, 5);
        T.due("10: unsold", y.move(), 0);
    }

    private static void movesMixed() {
        PurseAuction x = withLots(3, 20, 20);
        x.begin(FALLING, 30);
        x.bid(2, 30);
        T.due("10: with a claim of before", x.move(), 4);
        PurseAuction y = withLots(3, 20, 20);
        y.embolden(0, 30);
        y.begin(FALLING, 20);
        y.bid(1, 20);
        T.due("10: seat 0 claims ahead", y.move(), 1);
    }

    private static void last() {
        PurseAuction x = new PurseAuction();
        T.due("11: no lot", x.last(), NOT_POSSIBLE);
        x.lot(0, 10);
        x.lot(1, 20);
        T.due("11: not the last one", x.last(), NOT_POSSIBLE);
        x.begin(FALLING, 30);
        T.due("11: in an auction", x.last(), NOT_POSSIBLE);
        x.bid(2, 30);
        x.pass(0);
        T.due("11: the smallest purse", x.last(), 2);
        T.due("11: owner", x.about(1, 2), 4);
        T.due("11: free", x.about(1, 3), 0);
        T.due("11: sold", x.about(1, 4), 1);
        T.due("11: purse", x.player(2, 0), 70);
        T.due("11: none left", x.last(), NOT_POSSIBLE);
        T.due("11: no next lot", x.count(2), NONE);
        T.due("11: starter", x.count(3), 2);
        PurseAuction y = new PurseAuction();
        y.lot(0, 10);
        T.due("11: the only lot", y.last(), 0);
    }

    private static void lastTies() {
        PurseAuction x = withLots(4, 1, 1, 1);
        x.fill(1, 90);
        x.fill(0, 90);
        x.begin(FALLING, 1);
        x.pass(0);
        x.begin(FALLING, 1);
        x.pass(0);
        T.due("11: from the starter 2 on", x.last(), 0);
        PurseAuction y = withLots(4, 1, 1);
        y.fill(0, 90);
        y.fill(3, 90);
        y.begin(FALLING, 1);
        y.pass(0);
        T.due("11: from the starter 1 on", y.last(), 3);
    }

    private static void ask() {
        PurseAuction x = withLots(3, 10, 10);
        T.due("12: no player", x.ask(3, 0), NO_SUCH);
        T.due("12: no player -1", x.ask(-1, 1), NO_SUCH);
        T.due("12: amount 0", x.ask(0, 0), BAD_VALUE);
        T.due("12: amount 301", x.ask(0, 301), BAD_VALUE);
        T.due("12: has just so much", x.ask(0, 100), 1);
        T.due("12: least", x.known(0, 0), 100);
        T.due("12: has less", x.ask(0, 101), 0);
        T.due("12: greatest", x.known(0, 1), 100);
        T.due("12: tells nothing new", x.ask(0, 50), 1);
        T.due("12: least stays", x.known(0, 0), 100);
        T.due("12: tells nothing new", x.ask(0, 300), 0);
        T.due("12: greatest stays", x.known(0, 1), 100);
        T.due("12: amount 1", x.ask(1, 1), 1);
        T.due("12: least", x.known(1, 0), 1);
        x.begin(OPEN, 1);
        T.due("12: in an auction", x.ask(0, 1), NOT_POSSIBLE);
        T.due("12: amount first", x.ask(0, 0), BAD_VALUE);
        x.bid(0, 100);
        x.pass(1);
        x.pass(2);
        T.due("12: an empty purse", x.ask(0, 1), 0);
        T.due("12: greatest", x.known(0, 1), 0);
    }
}
