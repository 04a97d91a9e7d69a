/** Promises 19 to 21, a check of its own for each sentence that names an edge. */
public final class ForecastEdgesTest {
    private static final int NO_SUCH = -1, BAD_VALUE = -2, NOT_POSSIBLE = -5, NONE = -6;
    private static final int START = 0, STEP = 1, SET = 3, COIN = 5;
    private static final int OPEN = 0, SEALED = 1, FALLING = 2;
    private static final Edges E = new Edges("ForecastEdgesTest");
    private static final Run NEW = Run.of();

    public static void main(String[] args) {
        forecastRanges();
        forecastOrder();
        forecastWithoutAuctions();
        forecastByMovesAlone();
        forecastOfTheAuctionThatGoesOn();
        forecastOfTwelveLots();
        forecastChangesNothing();
        bestModeRanges();
        bestModeOfEquals();
        bestModeIsTheGreatest();
        leastBidRanges();
        leastBidNotPossible();
        leastBidOrder();
        leastBidByTheReserve();
        leastBidByTheOthers();
        leastBidByThePurse();
        leastBidWins();
        E.end();
    }

    private static Run game(int players, int lots) {
        return Run.of(x -> x.setUp(players)).times(lots, x -> x.lot(0, 20));
    }

    private static long skipLot(PurseAuction x) {
        x.begin(FALLING, 1);
        return x.pass(0);
    }

    // ---- promise 19

    private static void forecastRanges() {
        for (int players = 2; players <= 6; players++) {
            E.range("19: " + players + " players, no lots", Run.of(x -> x.setUp(6)).and(setUp(players)),
                (x, player) -> x.forecast(OPEN, 9, player), Edges.ends(0, players - 1), NO_SUCH, 20, 20);
        }
        Run two = game(2, 2);
        // OPEN: 300 is too much for all. FALLING: both claim at 20, which is seat 0's. The last lot is the poorer one's.
        E.range("19: mode OPEN to FALLING", two, (x, mode) -> x.forecast(mode, 300, 0), Edges.ends(OPEN, FALLING), BAD_VALUE, 20, 44 + 16);
        E.range("19: reserve 1 to 300, OPEN", two, (x, reserve) -> x.forecast(OPEN, reserve, 1), Edges.ends(1, 300), BAD_VALUE, 44 + 16, 40);
        E.range("19: reserve 1 to 300, SEALED", two, (x, reserve) -> x.forecast(SEALED, reserve, 1), Edges.ends(1, 300), BAD_VALUE,
            10 + 20 + 4 + 18, 40);
        E.range("19: reserve 1 to 300, FALLING", two, (x, reserve) -> x.forecast(FALLING, reserve, 0), Edges.ends(1, 300), BAD_VALUE,
            44 + 19, 44 + 16);
        Run begun = two.and(x -> x.begin(OPEN, 300));
        E.range("19: the mode is looked at also in an auction", begun, (x, mode) -> x.forecast(mode, 9, 1), Edges.ends(OPEN, FALLING), BAD_VALUE, 40, 40);
        E.range("19: so is the reserve", begun, (x, reserve) -> x.forecast(OPEN, reserve, 1), Edges.ends(1, 300), BAD_VALUE, 40, 40);
    }

    private static Run.Call setUp(int players) {
        return x -> x.setUp(players);
    }

    private static void forecastOrder() {
        E.refuses("19: no player and no mode", game(3, 2), x -> x.forecast(3, 9, 3), NO_SUCH);
        E.refuses("19: no player and no reserve", game(3, 2), x -> x.forecast(OPEN, 301, -1), NO_SUCH);
        E.refuses("19: neither player nor mode nor reserve", game(3, 2), x -> x.forecast(-1, 0, 3), NO_SUCH);
        E.refuses("19: neither mode nor reserve", game(3, 2), x -> x.forecast(-1, 0, 2), BAD_VALUE);
        E.refuses("19: no mode, without lots", NEW, x -> x.forecast(3, 9, 0), BAD_VALUE);
    }

    private static void forecastWithoutAuctions() {
        for (int mode = OPEN; mode <= FALLING; mode++) {
            int how = mode;
            E.answers("19: no lots", NEW, x -> x.forecast(how, 1, 0), 20);
            E.answers("19: one lot, which is the last one", game(3, 1), x -> x.forecast(how, 1, 0), 40);
            E.answers("19: and not another one's", game(3, 1), x -> x.forecast(how, 1, 1), 20);
            E.answers("19: it was given", game(3, 1).and(x -> x.last()), x -> x.forecast(how, 1, 0), 40);
            E.answers("19: only the last lot is left", game(3, 2).and(ForecastEdgesTest::skipLot), x -> x.forecast(how, 1, 1), 40);
        }
    }

    /** As many moves as it takes, then the last lot: what a forecast does in a copy. */
    private static long byHand(PurseAuction x, int mode, int reserve, int player) {
        for (int calls = 0; calls < 400 && x.count(2) != NONE; calls++) {
            if (x.count(4) == 1) x.move();
            else if (x.last() == NOT_POSSIBLE) x.begin(mode, reserve);
        }
        return x.player(player, 4);
    }

    private static void asByHand(String sentence, Run run, int reserve) {
        for (int mode = OPEN; mode <= FALLING; mode++) {
            for (int player = 0; player < 3; player++) {
                int how = mode;
                int at = player;
                long due = byHand(run.played(), how, reserve, at);
                E.answers("19: " + sentence + ", mode " + how + ", seat " + at, run, x -> x.forecast(how, reserve, at), due);
            }
        }
    }

    private static Run mixedGame() {
        return Run.of(x -> x.lot(0, 17), x -> x.lot(1, 33), x -> x.lot(0, 8), x -> x.lot(2, 50), x -> x.lot(3, 5), x -> x.embolden(0, 8),
            x -> x.embolden(2, 13), x -> x.fill(1, 60));
    }

    private static void forecastByMovesAlone() {
        for (int reserve : new int[] {1, 7, 30, 60}) asByHand("as by moves, reserve " + reserve, mixedGame(), reserve);
        asByHand("behind a sold lot", mixedGame().and(x -> x.begin(FALLING, 40), x -> x.bid(2, 40), x -> x.pass(0)), 5);
        asByHand("behind an unsold lot", mixedGame().and(ForecastEdgesTest::skipLot), 5);
    }

    private static void forecastOfTheAuctionThatGoesOn() {
        asByHand("an OPEN auction", mixedGame().and(x -> x.begin(OPEN, 3), x -> x.bid(0, 12), x -> x.pass(1)), 40);
        asByHand("a SEALED auction", mixedGame().and(x -> x.begin(SEALED, 3), x -> x.bid(1, 40), x -> x.bid(0, 0)), 40);
        asByHand("a FALLING auction", mixedGame().and(x -> x.begin(FALLING, 30), x -> x.pass(2), x -> x.bid(1, 25)), 40);
        Run open = game(2, 2).and(x -> x.begin(OPEN, 12));
        Run sealed = game(2, 2).and(x -> x.begin(SEALED, 12));
        Run falling = game(2, 2).and(x -> x.begin(FALLING, 12));
        for (int mode = OPEN; mode <= FALLING; mode++) {
            int how = mode;
            for (int reserve : new int[] {1, 300}) {
                // Seat 0 bids 12, seat 1 bids 17, and gets the last lot, too.
                E.answers("19: its own mode and reserve, OPEN", open, x -> x.forecast(how, reserve, 1), 44 + 83 / 5);
                // Both hand in 20; of purses of 90 the one of the starter 1 is the first.
                E.answers("19: its own mode and reserve, SEALED", sealed, x -> x.forecast(how, reserve, 0), 10 + 90 / 5);
                // Both claim at 12, seat 0 is the first, and the poorer one then.
                E.answers("19: its own mode and reserve, FALLING", falling, x -> x.forecast(how, reserve, 0), 44 + 88 / 5);
            }
        }
        Run others = game(2, 3).and(x -> x.begin(SEALED, 300));
        E.answers("19: all other lots in the mode with the reserve", others, x -> x.forecast(FALLING, 20, 1), 44 + 80 / 5);
        E.answers("19: also where nobody can pay it", others, x -> x.forecast(OPEN, 300, 0), 20 + 20);
    }

    private static void forecastOfTwelveLots() {
        Run twelve = Run.of(x -> x.set(STEP, 1), x -> x.setUp(6)).times(12, x -> x.lot(0, 50));
        for (int seat = 0; seat < 6; seat++) {
            int at = seat;
            twelve = twelve.and(x -> x.embolden(at, 0));
        }
        E.answers("19: 11 lots fall from 300 to nothing", twelve, x -> x.forecast(FALLING, 300, 5), 50 + 20);
        E.answers("19: 11 lots nobody bids for", twelve, x -> x.forecast(OPEN, 1, 5), 50 + 20);
        E.answers("19: 11 lots for which all hand in 0", twelve, x -> x.forecast(SEALED, 1, 5), 50 + 20);
        Run bold = Run.of(x -> x.set(START, 300), x -> x.set(STEP, 20), x -> x.set(COIN, 1), x -> x.setUp(2)).times(12, x -> x.lot(0, 1))
            .and(x -> x.embolden(1, 30), x -> x.embolden(0, 0));
        // 11 lots for 1 each, and the last one for the smaller purse: 12 of a colour.
        E.answers("19: one buys all", bold, x -> x.forecast(FALLING, 1, 1), 12 + 4 * 66 + 289);
        E.answers("19: the other one nothing", bold, x -> x.forecast(FALLING, 1, 0), 300);
    }

    private static void forecastChangesNothing() {
        Run run = mixedGame().and(x -> x.put('m'), x -> x.save(1), x -> x.begin(FALLING, 30), x -> x.bid(1, 30));
        long due = byHand(run.played(), OPEN, 9, 1);
        E.keeps("19: in copies", run, x -> x.forecast(OPEN, 9, 1), due);
        E.keeps("20: in copies", run, x -> x.bestMode(1, 300), OPEN);
        E.keeps("21: in copies", mixedGame().and(x -> x.put('m'), x -> x.save(1)), x -> x.leastBid(1, 9), 22);
        E.answers("19: twice the same", run.and(x -> x.forecast(FALLING, 300, 0)), x -> x.forecast(OPEN, 9, 1), due);
    }

    // ---- promise 20

    private static void bestModeRanges() {
        E.range("20: 2 players", game(2, 0), (x, player) -> x.bestMode(player, 9), Edges.ends(0, 1), NO_SUCH, OPEN, OPEN);
        E.range("20: 6 players", game(6, 0), (x, player) -> x.bestMode(player, 9), Edges.ends(0, 5), NO_SUCH, OPEN, OPEN);
        E.range("20: reserve 1 to 300", game(2, 2), (x, reserve) -> x.bestMode(0, reserve), Edges.ends(1, 300), BAD_VALUE, FALLING, FALLING);
        E.refuses("20: no player and no reserve", NEW, x -> x.bestMode(3, 0), NO_SUCH);
        E.refuses("20: no player -1 and no reserve", NEW, x -> x.bestMode(-1, 301), NO_SUCH);
        E.refuses("20: no reserve in an auction", game(2, 2).and(x -> x.begin(OPEN, 1)), x -> x.bestMode(0, 301), BAD_VALUE);
    }

    private static void best(String sentence, Run run, int player, int reserve, int... scores) {
        int best = scores[1] > scores[0] ? SEALED : OPEN;
        if (scores[2] > scores[best]) best = FALLING;
        int due = best;
        for (int mode = OPEN; mode <= FALLING; mode++) {
            int how = mode;
            E.answers("20: forecast " + how + ", " + sentence, run, x -> x.forecast(how, reserve, player), scores[how]);
        }
        E.answers("20: " + sentence, run, x -> x.bestMode(player, reserve), due);
    }

    /** Two players, a lot of some worth, and the last one worth 1 of another colour. */
    private static Run twoLots(int worth, int boldness, int coin) {
        return Run.of(x -> x.setUp(2), x -> x.set(COIN, coin), x -> x.lot(0, worth), x -> x.lot(1, 1), x -> x.embolden(1, boldness));
    }

    private static void bestModeOfEquals() {
        best("no lots: OPEN", NEW, 2, 300, 20, 20, 20);
        best("only the last lot: OPEN", game(3, 1), 0, 300, 40, 40, 40);
        best("all three are the same: OPEN", twoLots(1, 5, 5), 0, 1, 21, 21, 21);
        best("OPEN and SEALED are the same: OPEN", twoLots(1, 5, 5), 1, 6, 21, 21, 20);
        best("OPEN and FALLING are the same: OPEN", twoLots(1, 10, 5), 0, 1, 21, 20, 21);
        // OPEN: seat 0 bids 1, seat 1 bids 6, and 11 is too much. Otherwise seat 0 gets both, for 10 or 1.
        best("SEALED and FALLING are the same: SEALED", twoLots(10, 8, 20), 0, 1, 100 / 20, 11 + 90 / 20, 11 + 99 / 20);
        Run begun = game(2, 2).and(x -> x.begin(FALLING, 20));
        best("the auction has its own mode: OPEN", begun, 0, 1, 44 + 16, 44 + 16, 44 + 16);
    }

    private static void bestModeIsTheGreatest() {
        best("OPEN is the greatest", twoLots(6, 10, 5), 1, 1, 25, 23, 20);
        best("SEALED is the greatest", twoLots(2, 10, 5), 1, 1, 20, 21, 20);
        best("FALLING is the greatest by 1", twoLots(1, 5, 5), 0, 6, 20, 20, 21);
        best("FALLING is greater than SEALED, and SEALED than OPEN", twoLots(6, 10, 5), 0, 1, 20, 22, 26);
        best("FALLING is greater than OPEN, and OPEN than SEALED", twoLots(11, 10, 5), 0, 1, 29, 24, 31);
    }

    // ---- promise 21

    private static void leastBidRanges() {
        E.range("21: 2 players", game(2, 2), (x, player) -> x.leastBid(player, 9), Edges.ends(0, 1), NO_SUCH, 20, 20);
        E.range("21: 6 players", game(6, 2), (x, player) -> x.leastBid(player, 9), Edges.ends(0, 5), NO_SUCH, 20, 20);
        E.range("21: reserve 1 to 300", game(2, 2).and(x -> x.fill(0, 300)), (x, reserve) -> x.leastBid(0, reserve), Edges.ends(1, 300),
            BAD_VALUE, 20, 300);
    }

    private static void leastBidNotPossible() {
        for (int mode = OPEN; mode <= FALLING; mode++) {
            int how = mode;
            E.refuses("21: an auction goes on, mode " + how, game(2, 3).and(x -> x.begin(how, 9)), x -> x.leastBid(0, 9), NOT_POSSIBLE);
        }
        E.refuses("21: there is no lot", NEW, x -> x.leastBid(0, 9), NOT_POSSIBLE);
        E.refuses("21: the only lot is the last one", game(2, 1), x -> x.leastBid(0, 9), NOT_POSSIBLE);
        E.refuses("21: of two lots the last one", game(2, 2).and(ForecastEdgesTest::skipLot), x -> x.leastBid(0, 9), NOT_POSSIBLE);
        E.refuses("21: there is no lot any more", game(2, 1).and(x -> x.last()), x -> x.leastBid(0, 9), NOT_POSSIBLE);
        E.answers("21: the last but one", game(2, 3).and(ForecastEdgesTest::skipLot), x -> x.leastBid(0, 9), 20);
    }

    private static void leastBidOrder() {
        E.refuses("21: no player and no reserve", game(2, 2), x -> x.leastBid(2, 0), NO_SUCH);
        E.refuses("21: no player and no lot", NEW, x -> x.leastBid(-1, 9), NO_SUCH);
        E.refuses("21: no reserve and no lot", NEW, x -> x.leastBid(0, 301), BAD_VALUE);
        E.refuses("21: no reserve in an auction", game(2, 2).and(x -> x.begin(OPEN, 9)), x -> x.leastBid(0, 0), BAD_VALUE);
        Run poor = game(2, 2).and(x -> x.fill(0, 0));
        E.refuses("21: no reserve, where there would be NONE", poor, x -> x.leastBid(0, 301), BAD_VALUE);
        E.refuses("21: an auction, where there would be NONE", poor.and(x -> x.begin(OPEN, 9)), x -> x.leastBid(0, 9), NOT_POSSIBLE);
        E.refuses("21: the last lot, where there would be NONE", poor.and(ForecastEdgesTest::skipLot), x -> x.leastBid(0, 9), NOT_POSSIBLE);
        E.keeps("21: NONE changes nothing", poor, x -> x.leastBid(0, 9), NONE);
    }

    private static void leastBidByTheReserve() {
        Run lots = game(3, 2);
        E.answers("21: the reserve is the limit of the others", lots, x -> x.leastBid(0, 20), 20);
        E.answers("21: the reserve is 1 below it", lots, x -> x.leastBid(0, 19), 20);
        E.answers("21: the reserve is 1 above it: the others hand in 0", lots, x -> x.leastBid(0, 21), 21);
        Run shy = lots.and(x -> x.embolden(1, 0), x -> x.embolden(2, 0));
        E.answers("21: the others hand in 0, reserve 1: not 0", shy, x -> x.leastBid(0, 1), 1);
    }

    private static void leastBidByTheOthers() {
        Run lots = game(3, 2).and(x -> x.embolden(0, 5), x -> x.embolden(1, 10), x -> x.embolden(2, 20));
        E.answers("21: the highest one of the others", lots, x -> x.leastBid(0, 1), 40);
        E.answers("21: not the first one of them", lots, x -> x.leastBid(1, 1), 40);
        E.answers("21: without the player's own limit", lots, x -> x.leastBid(2, 1), 20);
        E.answers("21: by their purses", lots.and(x -> x.fill(2, 25)), x -> x.leastBid(0, 1), 25);
        E.answers("21: a limit below the reserve is no matter", lots, x -> x.leastBid(2, 15), 20);
        E.answers("21: nor one of two", lots, x -> x.leastBid(0, 30), 40);
    }

    private static void leastBidByThePurse() {
        Run lots = game(2, 2);
        E.answers("21: the purse is the reserve", lots.and(x -> x.fill(0, 30)), x -> x.leastBid(0, 30), 30);
        E.answers("21: the purse is 1 below the reserve", lots.and(x -> x.fill(0, 29)), x -> x.leastBid(0, 30), NONE);
        E.answers("21: the purse is the limit of the other", lots.and(x -> x.fill(0, 20)), x -> x.leastBid(0, 1), 20);
        E.answers("21: the purse is 1 below the limit of the other", lots.and(x -> x.fill(0, 19)), x -> x.leastBid(0, 1), NONE);
        E.answers("21: an empty purse", lots.and(x -> x.fill(0, 0)), x -> x.leastBid(0, 1), NONE);
        E.answers("21: an empty purse where nobody bids", lots.and(x -> x.fill(0, 0), x -> x.embolden(1, 0)), x -> x.leastBid(0, 1), NONE);
        E.answers("21: a full purse", lots.and(x -> x.fill(0, 300)), x -> x.leastBid(0, 300), 300);
    }

    /** Each bid is tried: with the least one the player wins, with 1 less not. */
    private static void leastBidWins() {
        for (int reserve : new int[] {1, 15, 16, 17, 44, 45, 60}) {
            for (int player = 0; player < 3; player++) {
                int at = player;
                Run begun = mixedGame().and(x -> x.set(SET, 20), ForecastEdgesTest::skipLot, ForecastEdgesTest::skipLot);
                int least = NONE;
                for (int amount = 0; amount <= begun.played().player(at, 0) && least == NONE; amount++) {
                    if ((handedIn(begun.played(), reserve, at, amount) >> at & 1) == 1) least = amount;
                }
                E.answers("21: wins alone or shared, reserve " + reserve, begun, x -> x.leastBid(at, reserve), least);
            }
        }
    }

    private static int handedIn(PurseAuction x, int reserve, int player, int amount) {
        x.begin(SEALED, reserve);
        int winners = x.bid(player, amount);
        for (int moves = 0; moves < 6 && x.count(4) == 1; moves++) winners = x.move();
        return winners;
    }
}
