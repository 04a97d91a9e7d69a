/** "Players who act by themselves" and promise 10, a check of its own for each sentence that names an edge. */
public final class MoveEdgesTest {
    private static final int NOT_POSSIBLE = -5, NONE = -6;
    private static final int STEP = 1, STOPS = 2, SET = 3;
    private static final int OPEN = 0, SEALED = 1, FALLING = 2;
    private static final Edges E = new Edges("MoveEdgesTest");
    private static final Run NEW = Run.of();

    public static void main(String[] args) {
        withoutAuction();
        openFirstBid();
        openNextBid();
        openByThePurse();
        openWhoseTurn();
        openStops();
        sealedLimit();
        sealedByThePurse();
        sealedFirstFromTheStarter();
        sealedBesideOthers();
        fallingLimit();
        fallingByThePurse();
        fallingAllAct();
        fallingBesideOthers();
        fallingToNothing();
        shyPlayers();
        E.end();
    }

    /** Three lots worth 20 each; the limit of each player is twice the boldness. */
    private static Run game(int... boldness) {
        Run game = Run.of(x -> x.setUp(boldness.length), x -> x.lot(0, 20), x -> x.lot(1, 20), x -> x.lot(2, 20), x -> x.set(SET, 0));
        for (int seat = 0; seat < boldness.length; seat++) {
            int at = seat;
            game = game.and(x -> x.embolden(at, boldness[at]));
        }
        return game;
    }

    private static Run begun(Run game, int mode, int reserve) {
        return game.and(x -> x.begin(mode, reserve));
    }

    private static long skipLot(PurseAuction x) {
        x.begin(FALLING, 1);
        return x.pass(0);
    }

    private static void withoutAuction() {
        E.refuses("10: no auction goes on, no lot", NEW, x -> x.move(), NOT_POSSIBLE);
        E.refuses("10: no auction goes on", game(10, 10), x -> x.move(), NOT_POSSIBLE);
        E.refuses("10: none of the last lot", Run.of(x -> x.lot(0, 9)), x -> x.move(), NOT_POSSIBLE);
        E.refuses("10: none any more", begun(game(0, 0), FALLING, 1).and(x -> x.move()), x -> x.move(), NOT_POSSIBLE);
        E.refuses("10: none behind the last lot", Run.of(x -> x.lot(0, 9), x -> x.last()), x -> x.move(), NOT_POSSIBLE);
    }

    // ---- OPEN

    private static void openFirstBid() {
        Run limit20 = game(10, 10, 10);
        Run at = begun(limit20, OPEN, 20);
        E.answers("10: the reserve is the limit: goes on", at, x -> x.move(), NONE);
        E.answers("10: the reserve is the limit: bids it", at.and(x -> x.move()), x -> x.player(0, 8), 20);
        E.answers("10: it is not out", at.and(x -> x.move()), x -> x.player(0, 9), 0);
        Run above = begun(limit20, OPEN, 21).and(x -> x.move());
        E.answers("10: the reserve is 1 above the limit: no bid", above, x -> x.player(0, 8), NONE);
        E.answers("10: the reserve is 1 above the limit: out", above, x -> x.player(0, 9), 1);
        Run below = begun(limit20, OPEN, 1).and(x -> x.move());
        E.answers("10: the least bid that is possible, not the limit", below, x -> x.player(0, 8), 1);
        E.answers("10: all pass: unsold", above.and(x -> x.move()), x -> x.move(), 0);
    }

    private static void openNextBid() {
        Run bid = begun(game(10, 10), OPEN, 1).and(x -> x.bid(0, 15));
        E.answers("10: the highest bid plus STEP is the limit", bid, x -> x.move(), NONE);
        E.answers("10: it is bid", bid.and(x -> x.move()), x -> x.player(1, 8), 20);
        Run high = begun(game(10, 10), OPEN, 1).and(x -> x.bid(0, 16));
        E.answers("10: the highest bid plus STEP is 1 above the limit: passes, and the other one wins", high, x -> x.move(), 1);
        E.answers("10: for the bid of before", high.and(x -> x.move()), x -> x.about(0, 3), 16);
        Run step = begun(game(10, 10).and(x -> x.set(STEP, 20)), OPEN, 1).and(x -> x.bid(0, 1));
        E.answers("10: by STEP 20 above the limit", step, x -> x.move(), 1);
    }

    private static void openByThePurse() {
        Run bold = game(30, 30).and(x -> x.fill(0, 30));
        E.answers("10: the reserve is the purse, below g", begun(bold, OPEN, 30).and(x -> x.move()), x -> x.player(0, 8), 30);
        E.answers("10: the reserve is 1 above the purse", begun(bold, OPEN, 31).and(x -> x.move()), x -> x.player(0, 9), 1);
        Run empty = game(30, 30).and(x -> x.fill(0, 0));
        E.answers("10: an empty purse passes", begun(empty, OPEN, 1).and(x -> x.move()), x -> x.player(0, 9), 1);
    }

    private static void openWhoseTurn() {
        Run second = begun(game(10, 10, 10).and(MoveEdgesTest::skipLot), OPEN, 9);
        E.answers("10: the starter acts, seat 1", second.and(x -> x.move()), x -> x.player(1, 8), 9);
        E.answers("10: the others do not", second.and(x -> x.move()), x -> x.count(9), 1);
        Run third = second.and(x -> x.bid(1, 9), x -> x.pass(2));
        E.answers("10: the seat 0 acts behind the last one", third.and(x -> x.move()), x -> x.player(0, 8), 14);
        E.answers("10: and then seat 1 again", third.and(x -> x.move(), x -> x.move()), x -> x.player(1, 8), 19);
    }

    private static void openStops() {
        Run one = begun(game(30, 30).and(x -> x.set(STOPS, 1)), OPEN, 9);
        E.answers("10: the bid of a move ends it, STOPS 1", one, x -> x.move(), 1);
        Run pass = begun(game(0, 30).and(x -> x.set(STOPS, 1)), OPEN, 9);
        E.answers("10: a pass does not", pass, x -> x.move(), NONE);
        E.answers("10: but the bid behind it", pass.and(x -> x.move()), x -> x.move(), 2);
    }

    // ---- SEALED

    private static void sealedLimit() {
        Run at = begun(game(10, 10), SEALED, 20).and(x -> x.move());
        E.answers("10: the limit is the reserve: it is handed in", at, x -> x.player(0, 8), 20);
        Run above = begun(game(10, 10), SEALED, 21).and(x -> x.move());
        E.answers("10: the limit is 1 below the reserve: 0 is handed in", above, x -> x.player(0, 8), 0);
        Run below = begun(game(10, 10), SEALED, 1).and(x -> x.move());
        E.answers("10: the limit, not the reserve", below, x -> x.player(0, 8), 20);
        E.answers("10: the move of the first one: goes on", begun(game(10, 10), SEALED, 20), x -> x.move(), NONE);
        E.answers("10: the move of the last one: both win", at, x -> x.move(), 3);
        E.answers("10: both hand in 0: unsold", above, x -> x.move(), 0);
    }

    private static void sealedByThePurse() {
        Run bold = game(30, 30).and(x -> x.fill(0, 30));
        E.answers("10: the purse is the limit and the reserve", begun(bold, SEALED, 30).and(x -> x.move()), x -> x.player(0, 8), 30);
        E.answers("10: the purse is 1 below the reserve", begun(bold, SEALED, 31).and(x -> x.move()), x -> x.player(0, 8), 0);
    }

    private static void sealedFirstFromTheStarter() {
        for (int starter = 0; starter < 2; starter++) {
            Run begun = begun(game(10, 10, 10).times(starter, MoveEdgesTest::skipLot), SEALED, 9);
            for (int moves = 0; moves < 2; moves++) {
                int seat = (starter + moves) % 3;
                E.answers("10: has not handed in yet", begun, x -> x.player(seat, 8), NONE);
                begun = begun.and(x -> x.move());
                E.answers("10: the first one from the starter " + starter + " on", begun, x -> x.player(seat, 8), 20);
                E.answers("10: one move, one bid", begun, x -> x.count(9), moves + 1);
            }
            E.answers("10: the last one ends it", begun, x -> x.move(), 7);
        }
        Run six = Run.of(x -> x.setUp(6)).times(7, x -> x.lot(0, 20)).times(5, MoveEdgesTest::skipLot);
        Run wrapped = begun(six, SEALED, 9).and(x -> x.move(), x -> x.move());
        E.answers("10: seat 5 first", wrapped, x -> x.player(5, 8), 20);
        E.answers("10: the seat 0 behind it", wrapped, x -> x.player(0, 8), 20);
        E.answers("10: and not seat 1 yet", wrapped, x -> x.player(1, 8), NONE);
    }

    private static void sealedBesideOthers() {
        Run begun = begun(game(10, 10, 10), SEALED, 9).and(x -> x.bid(0, 0), x -> x.bid(1, 50));
        E.answers("10: only who has not handed in, a bid of 0 is one", begun, x -> x.move(), 2);
        E.answers("10: its limit is handed in", begun.and(x -> x.move()), x -> x.known(2, 0), 20);
    }

    // ---- FALLING

    private static void fallingLimit() {
        E.answers("10: the price is the limit", begun(game(10, 0), FALLING, 20), x -> x.move(), 1);
        E.answers("10: the price is 1 above the limit: falls", begun(game(10, 0), FALLING, 21), x -> x.move(), NONE);
        E.answers("10: by STEP", begun(game(10, 0), FALLING, 21).and(x -> x.move()), x -> x.count(6), 16);
        E.answers("10: nobody claimed", begun(game(10, 0), FALLING, 21).and(x -> x.move()), x -> x.count(9), 0);
        E.answers("10: then it is claimed", begun(game(10, 0), FALLING, 21).and(x -> x.move()), x -> x.move(), 1);
        E.answers("10: for 16", begun(game(10, 0), FALLING, 21).and(x -> x.move(), x -> x.move()), x -> x.about(0, 3), 16);
    }

    private static void fallingByThePurse() {
        Run bold = game(30, 0).and(x -> x.fill(0, 30));
        E.answers("10: the price is the purse", begun(bold, FALLING, 30), x -> x.move(), 1);
        E.answers("10: the price is 1 above the purse", begun(bold, FALLING, 31), x -> x.move(), NONE);
    }

    private static void fallingAllAct() {
        for (int starter = 0; starter < 2; starter++) {
            int from = starter;
            Run begun = begun(game(10, 10, 10).times(starter, MoveEdgesTest::skipLot), FALLING, 20);
            E.answers("10: all claim, the first one from the starter on", begun, x -> x.move(), 1 << from);
            for (int seat = 0; seat < 3; seat++) {
                int at = seat;
                E.answers("10: all have claimed, seat " + at, begun.and(x -> x.move()), x -> x.known(at, 0), at == from ? 0 : 20);
            }
        }
        E.answers("10: only those whose limit reaches it", begun(game(9, 10, 10), FALLING, 20), x -> x.move(), 2);
        Run two = begun(game(9, 10, 10), FALLING, 20).and(x -> x.move());
        E.answers("10: who does not claim tells nothing", two, x -> x.known(0, 0), 0);
        E.answers("10: all act ahead of the fall, also behind the first claim", two, x -> x.known(2, 0), 20);
        Run six = Run.of(x -> x.setUp(6)).times(7, x -> x.lot(0, 20)).times(5, MoveEdgesTest::skipLot);
        Run wrapped = begun(six.and(x -> x.embolden(5, 0)), FALLING, 20);
        E.answers("10: the seat 0 behind the last one", wrapped, x -> x.move(), 1);
    }

    private static void fallingBesideOthers() {
        Run claimed = begun(game(0, 0, 10), FALLING, 60).and(x -> x.bid(1, 60));
        E.answers("10: a claim of before stands", claimed, x -> x.move(), 2);
        Run later = begun(game(10, 0, 10), FALLING, 20).and(x -> x.bid(1, 20));
        E.answers("10: those who have not claimed act, too", later, x -> x.move(), 1);
        E.answers("10: and the claims of all three count", later.and(x -> x.move()), x -> x.known(1, 0), 20);
    }

    private static void fallingToNothing() {
        E.answers("10: falls to 1: goes on", begun(game(0, 0), FALLING, 6), x -> x.move(), NONE);
        E.answers("10: falls to 0: unsold", begun(game(0, 0), FALLING, 5), x -> x.move(), 0);
        E.answers("10: so it is told", begun(game(0, 0), FALLING, 5).and(x -> x.move()), x -> x.about(0, 4), 2);
    }

    private static void shyPlayers() {
        E.answers("10: boldness 0 hands in 0", begun(game(0, 0), SEALED, 1).and(x -> x.move()), x -> x.player(0, 8), 0);
        E.answers("10: boldness 0 passes at 1", begun(game(0, 0), OPEN, 1).and(x -> x.move()), x -> x.player(0, 9), 1);
        E.answers("10: boldness 0 does not claim at 1", begun(game(0, 0), FALLING, 1), x -> x.move(), 0);
    }
}
