/** "Auctions" and promises 7 to 9 and 11, a check of its own for each sentence that names an edge. */
public final class AuctionEdgesTest {
    private static final int NO_SUCH = -1, BAD_VALUE = -2, NOT_POSSIBLE = -5, NONE = -6;
    private static final int START = 0, STEP = 1, STOPS = 2;
    private static final int OPEN = 0, SEALED = 1, FALLING = 2;
    private static final Edges E = new Edges("AuctionEdgesTest");
    private static final Run NEW = Run.of();

    public static void main(String[] args) {
        nextLot();
        starterFollows();
        starterBehindTheLastLot();
        beginRanges();
        beginTooManyOrNone();
        beginOrder();
        beginReturnsTheLot();
        bidPlayers();
        bidWithoutAuction();
        bidOrder();
        openFirstBid();
        openNextBid();
        openTurnsAround();
        openTurnSkips();
        openEndsWithoutTurn();
        openStops();
        openPays();
        sealedAmounts();
        sealedAnyOrder();
        sealedOnce();
        sealedReserve();
        sealedShares();
        sealedRemainders();
        fallingPrice();
        fallingClaims();
        fallingFirstClaim();
        fallingToNothing();
        passPlayers();
        passNotPossible();
        passReturns();
        passInFalling();
        lastOnlyWhenNext();
        lastSmallestPurse();
        lastTies();
        lastIsFree();
        E.end();
    }

    private static Run game(int players, int lots) {
        return Run.of(x -> x.setUp(players)).times(lots, x -> x.lot(0, 20));
    }

    private static Run begun(int players, int mode, int reserve) {
        return game(players, 3).and(x -> x.begin(mode, reserve));
    }

    /** The starter moves on by a lot that is unsold. */
    private static long skipLot(PurseAuction x) {
        x.begin(FALLING, 1);
        return x.pass(0);
    }

    private static Run sold(Run run, int player, int amount) {
        return run.and(x -> x.begin(FALLING, amount), x -> x.bid(player, amount), x -> x.pass(0));
    }

    // ---- the next lot and the starter

    private static void nextLot() {
        E.answers("lots: no lot, no next one", NEW, x -> x.count(2), NONE);
        E.answers("lots: one lot is the next one", game(3, 1), x -> x.count(2), 0);
        Run lots = game(2, 12);
        for (int lot = 0; lot < 11; lot++) {
            int number = lot;
            E.answers("lots: in their order: " + number, lots, x -> x.count(2), number);
            E.answers("lots: it is still the next one in its auction", lots.and(x -> x.begin(FALLING, 9)), x -> x.count(2), number);
            lots = number % 2 == 0 ? sold(lots, 1, 1) : lots.and(AuctionEdgesTest::skipLot);
        }
        E.answers("lots: lot 11 is the last of 12", lots, x -> x.count(2), 11);
        E.answers("lots: nothing behind it", lots.and(x -> x.last()), x -> x.count(2), NONE);
    }

    private static void starterFollows() {
        for (int players = 2; players <= 6; players++) {
            Run lots = game(players, 12);
            int last = players - 1;
            for (int lot = 0; lot < 11; lot++) {
                int starter = lot % players;
                E.answers("starter: " + players + " players, lot " + lot, lots, x -> x.count(3), starter);
                E.answers("starter: in the auction", lots.and(x -> x.begin(SEALED, 1)), x -> x.count(3), starter);
                E.answers("starter: has the first turn", lots.and(x -> x.begin(OPEN, 1)), x -> x.count(8), starter);
                lots = lot % 2 == 0 ? sold(lots, last, 1) : lots.and(AuctionEdgesTest::skipLot);
            }
        }
    }

    private static void starterBehindTheLastLot() {
        Run only = game(2, 1);
        E.answers("starter: no lot is sold", only, x -> x.count(3), 0);
        E.answers("starter: behind the only lot", only.and(x -> x.last()), x -> x.count(3), 1);
        Run two = game(2, 2).and(AuctionEdgesTest::skipLot);
        E.answers("starter: behind an unsold lot", two, x -> x.count(3), 1);
        E.answers("starter: seat 0 behind the last seat of 2, also behind the last lot", two.and(x -> x.last()), x -> x.count(3), 0);
        Run six = game(6, 6).times(5, AuctionEdgesTest::skipLot);
        E.answers("starter: seat 5 of 6", six, x -> x.count(3), 5);
        E.answers("starter: seat 0 behind the last seat of 6, also behind the last lot", six.and(x -> x.last()), x -> x.count(3), 0);
    }

    // ---- promise 7

    private static void beginRanges() {
        E.range("7: mode OPEN to FALLING", game(3, 2), (x, mode) -> x.begin(mode, 9), Edges.ends(OPEN, FALLING), BAD_VALUE, 0, 0);
        for (int mode = OPEN; mode <= FALLING; mode++) {
            int how = mode;
            E.range("7: reserve 1 to 300, mode " + how, game(3, 2), (x, reserve) -> x.begin(how, reserve), Edges.ends(1, 300),
                BAD_VALUE, 0, 0);
            E.answers("7: its mode " + how, begun(3, how, 9), x -> x.count(5), how);
        }
        E.refuses("7: neither mode nor reserve", game(3, 2), x -> x.begin(3, 0), BAD_VALUE);
    }

    private static void beginTooManyOrNone() {
        for (int mode = OPEN; mode <= FALLING; mode++) {
            int how = mode;
            Run.Call begin = x -> x.begin(how, 9);
            E.refuses("7: there is no lot", NEW, begin, NOT_POSSIBLE);
            E.refuses("7: the only lot is the last one", game(3, 1), begin, NOT_POSSIBLE);
            E.refuses("7: of two lots the last one, the first is unsold", game(3, 2).and(AuctionEdgesTest::skipLot), begin, NOT_POSSIBLE);
            E.refuses("7: of two lots the last one, the first is sold", sold(game(3, 2), 1, 9), begin, NOT_POSSIBLE);
            E.refuses("7: of 12 lots the last one", game(3, 12).times(11, AuctionEdgesTest::skipLot), begin, NOT_POSSIBLE);
            E.refuses("7: there is no lot any more", game(3, 1).and(x -> x.last()), begin, NOT_POSSIBLE);
            for (int other = OPEN; other <= FALLING; other++) {
                E.refuses("7: an auction goes on, mode " + other, begun(3, other, 9), begin, NOT_POSSIBLE);
            }
        }
    }

    private static void beginOrder() {
        E.refuses("7: no mode and no lot", NEW, x -> x.begin(3, 1), BAD_VALUE);
        E.refuses("7: no reserve and no lot", NEW, x -> x.begin(OPEN, 301), BAD_VALUE);
        E.refuses("7: no mode for the last lot", game(3, 1), x -> x.begin(-1, 1), BAD_VALUE);
        E.refuses("7: no reserve for the last lot", game(3, 1), x -> x.begin(OPEN, 0), BAD_VALUE);
        E.refuses("7: no mode in an auction", begun(3, OPEN, 9), x -> x.begin(3, 1), BAD_VALUE);
        E.refuses("7: no reserve in an auction", begun(3, OPEN, 9), x -> x.begin(OPEN, 0), BAD_VALUE);
    }

    private static void beginReturnsTheLot() {
        Run lots = game(3, 12);
        for (int lot = 0; lot < 11; lot++) {
            int number = lot;
            E.answers("7: the number of the lot", lots, x -> x.begin(number % 3, 300), number);
            lots = lots.and(AuctionEdgesTest::skipLot);
        }
    }

    // ---- promise 8: who may bid

    private static void bidPlayers() {
        for (int players = 2; players <= 6; players += 4) {
            int last = players - 1;
            E.range("8: players, SEALED", begun(players, SEALED, 9), (x, player) -> x.bid(player, 9), Edges.ends(0, last), NO_SUCH, NONE, NONE);
            E.range("8: players, FALLING", begun(players, FALLING, 9), (x, player) -> x.bid(player, 9), Edges.ends(0, last), NO_SUCH, NONE, NONE);
            E.range("8: players, OPEN", begun(players, OPEN, 9), (x, player) -> x.bid(player, 9), Edges.ends(0, last), NO_SUCH, NONE, NOT_POSSIBLE);
            E.range("8: players, no auction", game(players, 3), (x, player) -> x.bid(player, 9), Edges.ends(0, last), NO_SUCH,
                NOT_POSSIBLE, NOT_POSSIBLE);
        }
    }

    private static void bidWithoutAuction() {
        E.refuses("8: no auction goes on, no lot", NEW, x -> x.bid(0, 9), NOT_POSSIBLE);
        E.refuses("8: no auction goes on", game(3, 3), x -> x.bid(0, 9), NOT_POSSIBLE);
        E.refuses("8: no auction goes on any more", sold(game(3, 3), 1, 9), x -> x.bid(1, 9), NOT_POSSIBLE);
        E.refuses("8: no auction of the last lot", game(3, 1), x -> x.bid(0, 9), NOT_POSSIBLE);
    }

    private static void bidOrder() {
        E.refuses("8: no player and no auction", game(3, 3), x -> x.bid(3, 9), NO_SUCH);
        E.refuses("8: no player and no amount", begun(3, SEALED, 9), x -> x.bid(3, -1), NO_SUCH);
        E.refuses("8: no auction and no amount", game(3, 3), x -> x.bid(0, -1), NOT_POSSIBLE);
        E.refuses("8: not the turn and no amount", begun(3, OPEN, 9), x -> x.bid(1, 8), NOT_POSSIBLE);
        E.refuses("8: handed in already and no amount", begun(3, SEALED, 9).and(x -> x.bid(1, 9)), x -> x.bid(1, 101), NOT_POSSIBLE);
        E.refuses("8: claimed already and no amount", begun(3, FALLING, 9).and(x -> x.bid(1, 9)), x -> x.bid(1, 8), NOT_POSSIBLE);
    }

    // ---- promise 8: OPEN

    private static void openFirstBid() {
        E.range("8: at least the reserve, not more than the purse", begun(3, OPEN, 30), (x, amount) -> x.bid(0, amount),
            Edges.ends(30, 100), BAD_VALUE, NONE, NONE);
        E.range("8: the reserve is the purse", begun(3, OPEN, 100), (x, amount) -> x.bid(0, amount), Edges.ends(100, 100),
            BAD_VALUE, NONE, NONE);
        Run poor = begun(3, OPEN, 101);
        for (int amount : new int[] {100, 101, 102}) {
            E.refuses("8: the reserve is above the purse", poor, x -> x.bid(0, amount), BAD_VALUE);
        }
        E.range("8: the reserve also for the second player, if there is no bid yet", begun(3, OPEN, 30).and(x -> x.pass(0)),
            (x, amount) -> x.bid(1, amount), Edges.ends(30, 100), BAD_VALUE, NONE, NONE);
        Run rich = Run.of(x -> x.set(START, 300)).and(x -> x.setUp(3), x -> x.lot(0, 1), x -> x.lot(0, 1), x -> x.begin(OPEN, 300));
        E.range("8: reserve 300 of a purse of 300", rich, (x, amount) -> x.bid(0, amount), Edges.ends(300, 300), BAD_VALUE, NONE, NONE);
        Run one = Run.of(x -> x.fill(0, 1), x -> x.lot(0, 1), x -> x.lot(0, 1), x -> x.begin(OPEN, 1));
        E.range("8: reserve 1 of a purse of 1", one, (x, amount) -> x.bid(0, amount), Edges.ends(1, 1), BAD_VALUE, NONE, NONE);
        Run empty = Run.of(x -> x.fill(0, 0), x -> x.lot(0, 1), x -> x.lot(0, 1), x -> x.begin(OPEN, 1));
        E.refuses("8: an empty purse", empty, x -> x.bid(0, 0), BAD_VALUE);
        E.refuses("8: more than an empty purse", empty, x -> x.bid(0, 1), BAD_VALUE);
    }

    private static void openNextBid() {
        Run bid = begun(3, OPEN, 30).and(x -> x.bid(0, 40));
        E.range("8: at least the highest bid plus STEP", bid, (x, amount) -> x.bid(1, amount), Edges.ends(45, 100), BAD_VALUE, NONE, NONE);
        E.range("8: the purse is just the highest bid plus STEP", begun(3, OPEN, 30).and(x -> x.bid(0, 95)),
            (x, amount) -> x.bid(1, amount), Edges.ends(100, 100), BAD_VALUE, NONE, NONE);
        Run high = begun(3, OPEN, 30).and(x -> x.bid(0, 96));
        for (int amount : new int[] {96, 97, 100, 101}) {
            E.refuses("8: the highest bid plus STEP is above the purse", high, x -> x.bid(1, amount), BAD_VALUE);
        }
        E.range("8: behind a pass", bid.and(x -> x.pass(1)), (x, amount) -> x.bid(2, amount), Edges.ends(45, 100), BAD_VALUE, NONE, NONE);
        E.range("8: the own bid of before is no matter", bid.and(x -> x.bid(1, 45), x -> x.pass(2)), (x, amount) -> x.bid(0, amount),
            Edges.ends(50, 100), BAD_VALUE, NONE, NONE);
        Run early = Run.of(x -> x.set(STEP, 20)).and(x -> x.lot(0, 1), x -> x.lot(0, 1), x -> x.begin(OPEN, 30), x -> x.bid(0, 31));
        E.refuses("8: above the reserve, below the step", early, x -> x.bid(1, 50), BAD_VALUE);
        E.answers("8: by the step", early, x -> x.bid(1, 51), NONE);
    }

    private static void openTurnsAround() {
        for (int players = 2; players <= 6; players++) {
            int n = players;
            Run turns = begun(n, OPEN, 1);
            for (int turn = 0; turn < 11; turn++) {
                int seat = turn % n;
                int amount = 1 + 5 * turn;
                E.answers("8: the seat 0 follows the last one, turn " + turn + " of " + n, turns, x -> x.count(8), seat);
                int before = (seat + n - 1) % n;
                E.refuses("8: not the turn of the one before", turns, x -> x.bid(before, amount), NOT_POSSIBLE);
                E.refuses("9: nor to pass", turns, x -> x.pass(before), NOT_POSSIBLE);
                E.answers("8: the turn", turns, x -> x.bid(seat, amount), NONE);
                turns = turns.and(x -> x.bid(seat, amount));
            }
        }
    }

    private static void openTurnSkips() {
        Run six = begun(6, OPEN, 1).and(x -> x.pass(0), x -> x.bid(1, 1), x -> x.pass(2), x -> x.bid(3, 6), x -> x.pass(4), x -> x.pass(5));
        E.answers("8: past the out of seats 4, 5, 0", six, x -> x.count(8), 1);
        E.refuses("8: one who is out does not bid", six, x -> x.bid(0, 11), NOT_POSSIBLE);
        E.refuses("9: one who is out does not pass", six, x -> x.pass(5), NOT_POSSIBLE);
        E.refuses("8: the one with the highest bid does not bid", six, x -> x.bid(3, 11), NOT_POSSIBLE);
        E.refuses("9: the one with the highest bid does not pass", six, x -> x.pass(3), NOT_POSSIBLE);
        E.answers("8: past the out of seat 2", six.and(x -> x.bid(1, 11)), x -> x.count(8), 3);
        Run leads = begun(3, OPEN, 1).and(x -> x.bid(0, 1), x -> x.bid(1, 6), x -> x.pass(2), x -> x.pass(0));
        E.answers("8: none but the one with the highest bid: the end", leads, x -> x.count(4), 0);
        Run behind = begun(4, OPEN, 1).and(x -> x.bid(0, 1), x -> x.pass(1), x -> x.pass(2));
        E.answers("8: not yet the end", behind, x -> x.count(8), 3);
        E.answers("8: the turn passes the one with the highest bid", begun(4, OPEN, 1).and(x -> x.pass(0), x -> x.bid(1, 1), x -> x.bid(2, 6),
            x -> x.pass(3)), x -> x.count(8), 1);
    }

    private static void openEndsWithoutTurn() {
        E.answers("9: 2 players: the second one passes", begun(2, OPEN, 1).and(x -> x.bid(0, 1)), x -> x.pass(1), 1);
        E.answers("8: 2 players: one is out, the other bids", begun(2, OPEN, 1).and(x -> x.pass(0)), x -> x.bid(1, 1), 2);
        E.answers("9: without a bid it is unsold", begun(2, OPEN, 1).and(x -> x.pass(0)), x -> x.pass(1), 0);
        E.answers("9: so it is told", begun(2, OPEN, 1).and(x -> x.pass(0), x -> x.pass(1)), x -> x.about(0, 4), 2);
        Run six = begun(6, OPEN, 1);
        for (int seat = 0; seat < 5; seat++) {
            int at = seat;
            E.answers("9: " + at + " of 6 have passed", six, x -> x.pass(at), NONE);
            six = six.and(x -> x.pass(at));
        }
        E.answers("9: the sixth one passes", six, x -> x.pass(5), 0);
        E.answers("8: the sixth one bids", six, x -> x.bid(5, 1), 32);
        E.refuses("8: it has ended", six.and(x -> x.bid(5, 1)), x -> x.bid(5, 6), NOT_POSSIBLE);
    }

    private static void openStops() {
        Run three = Run.of(x -> x.set(STOPS, 3)).and(x -> x.lot(0, 1), x -> x.lot(0, 1), x -> x.lot(0, 1), x -> x.begin(OPEN, 1));
        Run two = three.and(x -> x.bid(0, 1), x -> x.bid(1, 6));
        E.answers("8: 2 of 3 STOPS", two, x -> x.count(4), 1);
        E.answers("8: as soon as 3 bids have been made", two, x -> x.bid(2, 11), 4);
        E.answers("8: a pass is none of them", two.and(x -> x.pass(2)), x -> x.bid(0, 11), 1);
        E.answers("8: nor is a refused bid", two.and(x -> x.bid(2, 10)), x -> x.count(4), 1);
        E.answers("8: the bids of the next lot count anew", two.and(x -> x.bid(2, 11), x -> x.begin(OPEN, 1), x -> x.bid(1, 1)),
            x -> x.bid(2, 6), NONE);
    }

    private static void openPays() {
        Run sold = begun(3, OPEN, 1).and(x -> x.bid(0, 1), x -> x.bid(1, 6), x -> x.bid(2, 100), x -> x.pass(0), x -> x.pass(1));
        E.answers("8: the highest bidder pays the bid", sold, x -> x.player(2, 0), 0);
        E.answers("8: and no other", sold, x -> x.player(1, 0), 100);
        E.answers("8: the price", sold, x -> x.about(0, 3), 100);
        E.answers("8: the winner owns it", sold, x -> x.player(2, 6), 1);
        E.answers("8: unsold, nobody pays", begun(2, OPEN, 1).and(x -> x.pass(0), x -> x.pass(1)), x -> x.count(11), 0);
    }

    // ---- promise 8: SEALED

    private static void sealedAmounts() {
        E.range("8: from 0 to the purse", begun(3, SEALED, 30), (x, amount) -> x.bid(1, amount), Edges.ends(0, 100), BAD_VALUE, NONE, NONE);
        Run purses = Run.of(x -> x.fill(0, 0), x -> x.fill(1, 300), x -> x.lot(0, 1), x -> x.lot(0, 1), x -> x.begin(SEALED, 300));
        E.range("8: an empty purse", purses, (x, amount) -> x.bid(0, amount), Edges.ends(0, 0), BAD_VALUE, NONE, NONE);
        E.range("8: a purse of 300", purses, (x, amount) -> x.bid(1, amount), Edges.ends(0, 300), BAD_VALUE, NONE, NONE);
        E.answers("8: 300 reaches the reserve of 300", purses.and(x -> x.bid(0, 0), x -> x.bid(2, 100)), x -> x.bid(1, 300), 2);
        E.answers("8: 299 does not", purses.and(x -> x.bid(0, 0), x -> x.bid(2, 100)), x -> x.bid(1, 299), 0);
    }

    private static void sealedAnyOrder() {
        int[][] orders = {{0, 1, 2}, {0, 2, 1}, {1, 0, 2}, {1, 2, 0}, {2, 0, 1}, {2, 1, 0}};
        for (int[] order : orders) {
            Run one = begun(3, SEALED, 30).and(x -> x.bid(order[0], 30 + order[0]));
            E.answers("8: in any order, the second one", one, x -> x.bid(order[1], 30 + order[1]), NONE);
            Run two = one.and(x -> x.bid(order[1], 30 + order[1]));
            E.answers("8: it goes on", two, x -> x.count(4), 1);
            E.answers("8: in any order, the last one", two, x -> x.bid(order[2], 30 + order[2]), 4);
        }
    }

    private static void sealedOnce() {
        Run zero = begun(3, SEALED, 30).and(x -> x.bid(1, 0));
        E.refuses("8: has handed in 0 already", zero, x -> x.bid(1, 50), NOT_POSSIBLE);
        E.refuses("8: the same bid again", begun(3, SEALED, 30).and(x -> x.bid(0, 50)), x -> x.bid(0, 50), NOT_POSSIBLE);
        Run next = begun(3, SEALED, 30).and(x -> x.bid(0, 30), x -> x.bid(1, 0), x -> x.bid(2, 0), x -> x.begin(SEALED, 30));
        E.answers("8: in the next auction anew", next, x -> x.bid(0, 30), NONE);
    }

    private static void sealedReserve() {
        Run two = begun(2, SEALED, 30).and(x -> x.bid(0, 3));
        E.answers("8: the highest bid is the reserve", two, x -> x.bid(1, 30), 2);
        E.answers("8: the highest bid is 1 below the reserve", two, x -> x.bid(1, 29), 0);
        Run unsold = two.and(x -> x.bid(1, 29));
        E.answers("8: unsold", unsold, x -> x.about(0, 4), 2);
        E.answers("8: unsold, nobody pays", unsold, x -> x.count(11), 0);
        E.answers("8: all bid 0, also with reserve 1", begun(2, SEALED, 1).and(x -> x.bid(0, 0)), x -> x.bid(1, 0), 0);
        E.answers("8: 1 with reserve 1", begun(2, SEALED, 1).and(x -> x.bid(0, 0)), x -> x.bid(1, 1), 2);
    }

    private static void sealedShares() {
        Run three = begun(3, SEALED, 1).and(x -> x.bid(0, 9), x -> x.bid(1, 8));
        E.answers("8: all with the highest bid", three, x -> x.bid(2, 9), 5);
        Run sold = three.and(x -> x.bid(2, 9));
        E.answers("8: seat 0 pays 1 more", sold, x -> x.player(0, 2), 5);
        E.answers("8: seat 2 pays the bid divided", sold, x -> x.player(2, 2), 4);
        E.answers("8: a lower bid pays nothing", sold, x -> x.player(1, 2), 0);
        E.answers("8: by all together", sold, x -> x.about(0, 3), 9);
        E.answers("8: all own it", sold, x -> x.about(0, 2), 5);
        E.answers("8: 1 above the others wins alone", begun(3, SEALED, 1).and(x -> x.bid(0, 9), x -> x.bid(1, 9)), x -> x.bid(2, 10), 4);
        Run six = begun(6, SEALED, 1).and(x -> x.bid(5, 100), x -> x.bid(4, 100), x -> x.bid(3, 100), x -> x.bid(2, 100), x -> x.bid(1, 100));
        E.answers("8: six share", six, x -> x.bid(0, 100), 63);
    }

    /** Six share each remainder from 0 to 5, with each starter: who comes first pays 1 more. */
    private static void sealedRemainders() {
        for (int starter = 0; starter < 6; starter++) {
            Run before = game(6, 8).times(starter, AuctionEdgesTest::skipLot);
            for (int rest = 0; rest < 6; rest++) {
                int amount = 12 + rest;
                Run shared = before.and(x -> x.begin(SEALED, 1));
                for (int seat = 0; seat < 6; seat++) {
                    int at = seat;
                    shared = shared.and(x -> x.bid(at, amount));
                }
                for (int steps = 0; steps < 6; steps++) {
                    int seat = (starter + steps) % 6;
                    String sentence = "8: the first ones from the starter " + starter + " on pay 1 more, remainder " + rest + ", seat " + seat;
                    E.answers(sentence, shared, x -> x.player(seat, 2), steps < rest ? 3 : 2);
                }
            }
        }
        Run fewer = begun(6, SEALED, 1).and(x -> x.bid(0, 1), x -> x.bid(1, 0), x -> x.bid(2, 1), x -> x.bid(3, 1), x -> x.bid(4, 0), x -> x.bid(5, 0));
        E.answers("8: three share a bid of 1: the first pays it", fewer, x -> x.player(0, 2), 1);
        E.answers("8: three share a bid of 1: the second pays nothing", fewer, x -> x.player(2, 2), 0);
        E.answers("8: three share a bid of 1: the third pays nothing", fewer, x -> x.player(3, 2), 0);
    }

    // ---- promises 8 and 9: FALLING

    private static void fallingPrice() {
        for (int reserve : new int[] {1, 300}) {
            E.answers("8: the price is the reserve at first: " + reserve, begun(3, FALLING, reserve), x -> x.count(6), reserve);
        }
        E.range("8: the amount has to be the price", begun(3, FALLING, 30), (x, amount) -> x.bid(1, amount), Edges.ends(30, 30),
            BAD_VALUE, NONE, NONE);
        E.range("8: the amount has to be the price, when it fell", begun(3, FALLING, 30).and(x -> x.pass(0)),
            (x, amount) -> x.bid(1, amount), Edges.ends(25, 25), BAD_VALUE, NONE, NONE);
    }

    private static void fallingClaims() {
        E.answers("8: the price is the purse", begun(3, FALLING, 100), x -> x.bid(1, 100), NONE);
        E.refuses("8: the price is 1 above the purse", begun(3, FALLING, 101), x -> x.bid(1, 101), BAD_VALUE);
        E.refuses("8: nor can the purse be bid", begun(3, FALLING, 101), x -> x.bid(1, 100), BAD_VALUE);
        Run empty = Run.of(x -> x.fill(1, 0), x -> x.lot(0, 1), x -> x.lot(0, 1), x -> x.begin(FALLING, 1));
        E.refuses("8: an empty purse at the price 1", empty, x -> x.bid(1, 1), BAD_VALUE);
        E.refuses("8: an empty purse claims no 0", empty, x -> x.bid(1, 0), BAD_VALUE);
        Run full = Run.of(x -> x.fill(1, 300), x -> x.lot(0, 1), x -> x.lot(0, 1), x -> x.begin(FALLING, 300));
        E.answers("8: a purse of 300 at the price 300", full, x -> x.bid(1, 300), NONE);
        Run claimed = begun(3, FALLING, 30).and(x -> x.bid(1, 30));
        E.refuses("8: has claimed already", claimed, x -> x.bid(1, 30), NOT_POSSIBLE);
        E.answers("8: a claim does not end it", claimed, x -> x.count(4), 1);
        E.answers("8: nor do claims of all", claimed.and(x -> x.bid(0, 30)), x -> x.bid(2, 30), NONE);
        E.answers("8: who did not claim pays nothing", claimed.and(x -> x.pass(0)), x -> x.player(0, 2), 0);
    }

    /** Of all pairs that claim, with each starter, in both orders: the first one by seats from the starter on. */
    private static void fallingFirstClaim() {
        for (int starter = 0; starter < 6; starter++) {
            Run begun = game(6, 8).times(starter, AuctionEdgesTest::skipLot).and(x -> x.begin(FALLING, 30));
            for (int one = 0; one < 6; one++) {
                for (int other = 0; other < 6; other++) {
                    if (one == other) continue;
                    int a = one;
                    int b = other;
                    int first = (a - starter + 6) % 6 < (b - starter + 6) % 6 ? a : b;
                    Run claims = begun.and(x -> x.bid(a, 30), x -> x.bid(b, 30));
                    E.answers("9: the first one from the starter " + starter + " on", claims, x -> x.pass(5), 1 << first);
                    E.answers("9: pays the price", claims.and(x -> x.pass(5)), x -> x.player(first, 2), 30);
                    E.answers("9: the other one pays nothing", claims.and(x -> x.pass(5)), x -> x.count(11), 30);
                }
            }
        }
    }

    private static void fallingToNothing() {
        E.answers("9: the price falls to 1", begun(3, FALLING, 6), x -> x.pass(0), NONE);
        E.answers("9: it is 1", begun(3, FALLING, 6).and(x -> x.pass(0)), x -> x.count(6), 1);
        E.answers("9: it can be claimed at 1", begun(3, FALLING, 6).and(x -> x.pass(0)), x -> x.bid(2, 1), NONE);
        E.answers("9: from 1 to less than 1", begun(3, FALLING, 6).and(x -> x.pass(0)), x -> x.pass(0), 0);
        E.answers("9: to 0, which is less than 1", begun(3, FALLING, 5), x -> x.pass(0), 0);
        E.answers("9: below 0", begun(3, FALLING, 1), x -> x.pass(0), 0);
        E.answers("9: then it is unsold", begun(3, FALLING, 5).and(x -> x.pass(0)), x -> x.about(0, 4), 2);
        E.answers("9: and the auction has ended", begun(3, FALLING, 5).and(x -> x.pass(0)), x -> x.count(4), 0);
        E.answers("9: a claim at 1 wins", begun(3, FALLING, 1).and(x -> x.bid(2, 1)), x -> x.pass(0), 4);
        E.answers("9: it falls as long as there are no claims", begun(3, FALLING, 300).times(59, x -> x.pass(0)), x -> x.count(6), 5);
        E.answers("9: from 300 to nothing", begun(3, FALLING, 300).times(59, x -> x.pass(0)), x -> x.pass(0), 0);
    }

    // ---- promise 9

    private static void passPlayers() {
        for (int players = 2; players <= 6; players += 4) {
            int last = players - 1;
            Run.CallWith pass = (x, player) -> x.pass(player);
            E.range("9: no such player, no auction", game(players, 3), pass, Edges.ends(0, last), NO_SUCH, NOT_POSSIBLE, NOT_POSSIBLE);
            E.range("9: no such player, OPEN", begun(players, OPEN, 9), pass, Edges.ends(0, last), NO_SUCH, NONE, NOT_POSSIBLE);
            E.range("9: no such player, SEALED", begun(players, SEALED, 9), pass, Edges.ends(0, last), NO_SUCH, NOT_POSSIBLE, NOT_POSSIBLE);
            E.range("9: no such player, FALLING", begun(players, FALLING, 9), pass, Edges.ends(0, last), NO_SUCH, NONE, NONE);
        }
    }

    private static void passNotPossible() {
        E.refuses("9: no auction goes on, no lot", NEW, x -> x.pass(0), NOT_POSSIBLE);
        E.refuses("9: no auction goes on any more", sold(game(3, 3), 1, 9), x -> x.pass(1), NOT_POSSIBLE);
        E.refuses("9: the last lot has none", game(3, 1), x -> x.pass(0), NOT_POSSIBLE);
        E.refuses("9: it is SEALED", begun(3, SEALED, 9), x -> x.pass(0), NOT_POSSIBLE);
        E.refuses("9: it is SEALED, also for one who handed in", begun(3, SEALED, 9).and(x -> x.bid(1, 9)), x -> x.pass(1), NOT_POSSIBLE);
        E.refuses("9: it is not the player's turn", begun(3, OPEN, 9), x -> x.pass(2), NOT_POSSIBLE);
        E.refuses("9: out already", begun(3, OPEN, 9).and(x -> x.pass(0)), x -> x.pass(0), NOT_POSSIBLE);
    }

    private static void passReturns() {
        E.answers("9: it goes on", begun(3, OPEN, 9), x -> x.pass(0), NONE);
        E.answers("9: who passes is out", begun(3, OPEN, 9).and(x -> x.pass(0)), x -> x.player(0, 9), 1);
        E.answers("9: the set of the winners", begun(3, OPEN, 9).and(x -> x.bid(0, 9), x -> x.pass(1)), x -> x.pass(2), 1);
        E.answers("9: the set of the last seat of 6", begun(6, OPEN, 9).and(x -> x.pass(0), x -> x.pass(1), x -> x.pass(2), x -> x.pass(3),
            x -> x.pass(4)), x -> x.bid(5, 9), 32);
        E.answers("9: 0 if the lot is unsold", begun(3, OPEN, 9).and(x -> x.pass(0), x -> x.pass(1)), x -> x.pass(2), 0);
    }

    private static void passInFalling() {
        for (int seat = 0; seat < 3; seat++) {
            int at = seat;
            E.answers("9: any player can be told", begun(3, FALLING, 9), x -> x.pass(at), NONE);
            E.answers("9: and the price falls", begun(3, FALLING, 9).and(x -> x.pass(at)), x -> x.count(6), 4);
            E.answers("9: again the same one", begun(3, FALLING, 19).and(x -> x.pass(at)), x -> x.pass(at), NONE);
            E.answers("9: also one who claimed, or another one", begun(3, FALLING, 9).and(x -> x.bid(1, 9)), x -> x.pass(at), 2);
            E.answers("9: nobody is out by that", begun(3, FALLING, 9).and(x -> x.pass(at)), x -> x.player(at, 9), 0);
        }
    }

    // ---- promise 11

    private static void lastOnlyWhenNext() {
        E.refuses("11: there is no lot", NEW, x -> x.last(), NOT_POSSIBLE);
        E.refuses("11: the first of two lots", game(3, 2), x -> x.last(), NOT_POSSIBLE);
        for (int mode = OPEN; mode <= FALLING; mode++) {
            int how = mode;
            E.refuses("11: the lot before is auctioned, mode " + how, game(3, 2).and(x -> x.begin(how, 9)), x -> x.last(), NOT_POSSIBLE);
        }
        E.refuses("11: the last but one of 12", game(3, 12).times(10, AuctionEdgesTest::skipLot), x -> x.last(), NOT_POSSIBLE);
        E.answers("11: the last one of 12", game(3, 12).times(11, AuctionEdgesTest::skipLot), x -> x.last(), 2);
        E.answers("11: the only lot is the last one", game(3, 1), x -> x.last(), 0);
        E.refuses("11: it was given", game(3, 1).and(x -> x.last()), x -> x.last(), NOT_POSSIBLE);
        E.answers("11: behind a sold lot", sold(game(3, 2), 2, 9), x -> x.last(), 2);
        E.answers("11: behind an unsold lot", game(3, 2).and(AuctionEdgesTest::skipLot), x -> x.last(), 1);
    }

    private static void lastSmallestPurse() {
        for (int seat = 0; seat < 6; seat++) {
            int at = seat;
            Run poor = game(6, 1).and(x -> x.fill(at, 99));
            E.answers("11: 1 less than the others: seat " + at, poor, x -> x.last(), at);
            Run empty = game(6, 1).and(x -> x.fill((at + 1) % 6, 1), x -> x.fill(at, 0));
            E.answers("11: an empty purse: seat " + at, empty, x -> x.last(), at);
        }
    }

    private static void lastTies() {
        for (int starter = 0; starter < 6; starter++) {
            int from = starter;
            Run all = game(6, starter + 1).times(starter, AuctionEdgesTest::skipLot);
            E.answers("11: of all purses the starter's: " + from, all, x -> x.last(), from);
            for (int seat = 0; seat < 6; seat++) {
                int one = seat;
                int other = (seat + 3) % 6;
                Run two = game(6, starter + 1).and(x -> x.fill(one, 50), x -> x.fill(other, 50)).times(starter, AuctionEdgesTest::skipLot);
                int first = (one - from + 6) % 6 < (other - from + 6) % 6 ? one : other;
                E.answers("11: of several the first one from the starter " + from + " on", two, x -> x.last(), first);
            }
        }
        E.answers("11: 2 players, the starter is seat 1", game(2, 2).and(AuctionEdgesTest::skipLot), x -> x.last(), 1);
    }

    private static void lastIsFree() {
        Run given = game(3, 1).and(x -> x.last());
        E.answers("11: it is given for nothing", given, x -> x.player(0, 0), 100);
        E.answers("11: nothing is paid", given, x -> x.count(11), 0);
        E.answers("11: its price is 0", given, x -> x.about(0, 3), 0);
        E.answers("11: it is sold", given, x -> x.about(0, 4), 1);
        E.answers("11: nothing gets known by it: least", given, x -> x.known(0, 0), 0);
        E.answers("11: nothing gets known by it: greatest", given, x -> x.known(0, 1), 300);
    }
}
