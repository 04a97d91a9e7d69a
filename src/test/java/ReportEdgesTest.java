/** "Players and lots" (values, scores, places) and promises 13 to 15, a check of its own for each edge named. */
public final class ReportEdgesTest {
    private static final int NO_SUCH = -1, BAD_VALUE = -2, NONE = -6;
    private static final int START = 0, STEP = 1, SET = 3, RAINBOW = 4, COIN = 5;
    private static final int OPEN = 0, SEALED = 1, FALLING = 2;
    private static final Edges E = new Edges("ReportEdgesTest");
    private static final Run NEW = Run.of();

    public static void main(String[] args) {
        sharesAreRoundedDown();
        setsOfColours();
        setsOfSharedLots();
        rainbowColours();
        rainbowOfSharedLots();
        scores();
        placesOfEquals();
        placesByScores();
        playerRanges();
        playerOrder();
        playerPurseAndPaid();
        playerLots();
        playerLimit();
        playerLimitOfTheLastLot();
        playerBids();
        playerOut();
        aboutRanges();
        aboutOrder();
        aboutStates();
        aboutPrices();
        countRange();
        countPlayersAndLots();
        countWithoutAuction();
        countHighest();
        countLeaderAndTurn();
        countBids();
        countSums();
        countPad();
        questionsChangeNothing();
        E.end();
    }

    private static Run game(int players, int... colours) {
        Run game = Run.of(x -> x.setUp(players));
        for (int colour : colours) game = game.and(x -> x.lot(colour, 10));
        return game;
    }

    /** The next lot goes to some seats, for 1 of each. */
    private static Run shared(Run run, int... seats) {
        return run.and(x -> {
            x.begin(SEALED, 1);
            for (int seat = 0; seat < x.count(0); seat++) {
                int bid = 0;
                for (int winner : seats) if (winner == seat) bid = 1;
                x.bid(seat, bid);
            }
            return 0;
        });
    }

    private static Run skipped(Run run) {
        return run.and(x -> {
            x.begin(FALLING, 1);
            return x.pass(0);
        });
    }

    private static Run behindAll() {
        return game(3, 0).and(x -> x.last());
    }

    // ---- values

    private static void sharesAreRoundedDown() {
        int[] worths = {1, 2, 3, 5, 6, 49, 50};
        for (int worth : worths) {
            Run lots = Run.of(x -> x.setUp(6), x -> x.lot(0, worth), x -> x.lot(1, 1));
            int[][] winners = {{2}, {1, 2}, {0, 1, 2}, {0, 1, 2, 3}, {0, 1, 2, 3, 4}, {0, 1, 2, 3, 4, 5}};
            for (int[] seats : winners) {
                int due = worth / seats.length;
                E.answers("value: worth " + worth + " of " + seats.length + " owners", shared(lots, seats), x -> x.player(seats[0], 3), due);
            }
        }
        Run two = Run.of(x -> x.lot(0, 3), x -> x.lot(1, 3), x -> x.lot(2, 3));
        E.answers("value: rounded down for each lot", shared(shared(two, 0, 1), 0, 1), x -> x.player(0, 3), 1 + 1);
        E.answers("value: of no lots", two, x -> x.player(0, 3), 0);
        E.answers("value: an unsold lot is nobody's", skipped(two), x -> x.player(0, 3), 0);
    }

    private static void setsOfColours() {
        Run lots = game(2, 4, 4, 4, 4, 4, 4, 4, 4, 4, 4, 4, 4);
        for (int owned = 0; owned <= 11; owned++) {
            int c = owned;
            E.answers("value: SET of " + c + " alike", lots, x -> x.player(1, 3), 10 * c + 4 * c * (c - 1) / 2);
            lots = shared(lots, 1);
        }
        E.answers("value: SET of 12 alike", lots.and(x -> x.last()), x -> x.player(1, 3), 120 + 4 * 66);
        E.answers("value: nothing for the other", lots.and(x -> x.last()), x -> x.player(0, 3), 0);
        Run odd = shared(shared(game(2, 0, 5, 0).and(x -> x.set(SET, 1)), 1), 1);
        E.answers("value: SET 1 of 1 and 1", odd, x -> x.player(1, 3), 20);
        E.answers("value: SET 1 of 2 and 1", odd.and(x -> x.last()), x -> x.player(1, 3), 30 + 1);
        Run first = shared(shared(game(2, 0, 0, 1), 1), 1);
        E.answers("value: colour 0", first, x -> x.player(1, 3), 20 + 4);
        Run last = shared(shared(game(2, 5, 5, 1), 1), 1);
        E.answers("value: colour 5", last, x -> x.player(1, 3), 20 + 4);
    }

    private static void setsOfSharedLots() {
        Run lots = shared(shared(game(3, 3, 3, 3), 0, 1), 0, 2);
        E.answers("value: a shared lot counts whole for SET", lots, x -> x.player(0, 3), 5 + 5 + 4);
        E.answers("value: of one shared lot no SET", lots, x -> x.player(1, 3), 5);
        E.answers("value: one shared and one owned", shared(shared(game(3, 3, 3, 3), 0, 1), 0), x -> x.player(0, 3), 5 + 10 + 4);
    }

    private static void rainbowColours() {
        Run lots = game(2, 5, 4, 3, 2, 1, 0, 0);
        int[] due = {0, 10, 20, 30, 40 + 15, 50 + 15, 60 + 15};
        for (int owned = 0; owned <= 6; owned++) {
            E.answers("value: " + owned + " colours", lots, x -> x.player(1, 3), due[owned]);
            lots = shared(lots, 1);
        }
        Run three = shared(shared(shared(shared(shared(game(2, 0, 1, 2, 2, 0, 5), 1), 1), 1), 1), 1);
        E.answers("value: 3 colours of 5 lots are not 4", three, x -> x.player(1, 3), 50 + 4 + 4);
        E.answers("value: the last lot is the fourth colour", three.and(x -> x.last()), x -> x.player(1, 3), 60 + 8 + 15);
    }

    private static void rainbowOfSharedLots() {
        Run lots = shared(shared(shared(shared(game(2, 0, 1, 2, 3, 4), 0, 1), 0, 1), 0, 1), 0, 1);
        E.answers("value: 4 colours, all shared, seat 0", lots, x -> x.player(0, 3), 20 + 15);
        E.answers("value: 4 colours, all shared, seat 1", lots, x -> x.player(1, 3), 20 + 15);
    }

    private static void scores() {
        E.answers("score: an empty purse", Run.of(x -> x.fill(0, 0)), x -> x.player(0, 4), 0);
        E.answers("score: 4 coins of 5", Run.of(x -> x.fill(0, 4)), x -> x.player(0, 4), 0);
        E.answers("score: 5 coins of 5", Run.of(x -> x.fill(0, 5)), x -> x.player(0, 4), 1);
        E.answers("score: 300 coins", Run.of(x -> x.fill(0, 300)), x -> x.player(0, 4), 60);
        Run one = shared(Run.of(x -> x.set(START, 300)).and(x -> x.set(COIN, 1), x -> x.setUp(2), x -> x.lot(0, 50), x -> x.lot(0, 50)), 1);
        E.answers("score: the value plus the purse, COIN 1", one, x -> x.player(1, 4), 50 + 299);
        E.answers("score: with the last lot", one.and(x -> x.last()), x -> x.player(1, 4), 100 + 4 + 299);
    }

    private static void placesOfEquals() {
        for (int players = 2; players <= 6; players++) {
            Run game = game(players);
            for (int seat = 0; seat < players; seat++) {
                int at = seat;
                E.answers("place: of the same score, by ascending seats", game, x -> x.player(at, 5), at + 1);
            }
        }
        Run rounded = Run.of(x -> x.fill(0, 100), x -> x.fill(1, 104));
        E.answers("place: 104 coins are no more than 100", rounded, x -> x.player(0, 5), 1);
        E.answers("place: 105 coins are", rounded.and(x -> x.fill(1, 105)), x -> x.player(0, 5), 2);
    }

    private static void placesByScores() {
        Run up = game(6);
        Run down = game(6);
        for (int seat = 0; seat < 6; seat++) {
            int at = seat;
            up = up.and(x -> x.fill(at, 50 + 5 * at));
            down = down.and(x -> x.fill(at, 250 - 5 * at));
        }
        for (int seat = 0; seat < 6; seat++) {
            int at = seat;
            E.answers("place: descending scores, the last seat has most", up, x -> x.player(at, 5), 6 - at);
            E.answers("place: descending scores, the first seat has most", down, x -> x.player(at, 5), at + 1);
        }
        Run middle = game(4).and(x -> x.fill(1, 110), x -> x.fill(3, 110));
        int[] due = {3, 1, 4, 2};
        for (int seat = 0; seat < 4; seat++) {
            int at = seat;
            E.answers("place: two and two of the same score", middle, x -> x.player(at, 5), due[at]);
        }
    }

    // ---- promise 13

    private static void playerRanges() {
        for (int players = 2; players <= 6; players++) {
            int last = players - 1;
            E.range("13: " + players + " players", game(players, 0), (x, player) -> x.player(player, 0), Edges.ends(0, last), NO_SUCH, 100, 100);
        }
        E.range("13: what 0 to 9", NEW, (x, what) -> x.player(2, what), Edges.ends(0, 9), BAD_VALUE, 100, 0);
        E.range("13: what 0 to 9 in an auction", game(3, 0, 0).and(x -> x.begin(OPEN, 1), x -> x.pass(0)), (x, what) -> x.player(0, what),
            Edges.ends(0, 9), BAD_VALUE, 100, 1);
    }

    private static void playerOrder() {
        E.refuses("13: no player and no number", NEW, x -> x.player(3, 10), NO_SUCH);
        E.refuses("13: no player -1 and no number", NEW, x -> x.player(-1, -1), NO_SUCH);
        E.refuses("13: no player, where there would be NONE", NEW, x -> x.player(3, 7), NO_SUCH);
        E.refuses("13: no player, without a bid", NEW, x -> x.player(3, 8), NO_SUCH);
        E.refuses("13: no player, not out", NEW, x -> x.player(3, 9), NO_SUCH);
    }

    private static void playerPurseAndPaid() {
        Run sold = game(2, 0, 0).and(x -> x.fill(1, 300), x -> x.begin(FALLING, 300), x -> x.bid(1, 300), x -> x.pass(0));
        E.answers("13: an emptied purse", sold, x -> x.player(1, 0), 0);
        E.answers("13: all that was paid", sold, x -> x.player(1, 2), 300);
        E.answers("13: nothing was paid", sold, x -> x.player(0, 2), 0);
        Run twice = game(2, 0, 0, 0).and(x -> x.begin(FALLING, 1), x -> x.bid(1, 1), x -> x.pass(0), x -> x.begin(FALLING, 99), x -> x.bid(1, 99),
            x -> x.pass(0));
        E.answers("13: all that was paid, for two lots", twice, x -> x.player(1, 2), 100);
    }

    private static void playerLots() {
        Run lots = game(2, 0, 0, 0, 0, 0, 0, 0, 0, 0, 0, 0, 0);
        E.answers("13: no lots", lots, x -> x.player(1, 6), 0);
        for (int lot = 0; lot < 11; lot++) lots = shared(lots, 1);
        E.answers("13: 11 lots", lots, x -> x.player(1, 6), 2047);
        E.answers("13: 12 lots", lots.and(x -> x.last()), x -> x.player(1, 6), 4095);
        E.answers("13: none of 12 lots", lots.and(x -> x.last()), x -> x.player(0, 6), 0);
        Run mixed = shared(skipped(shared(shared(game(3, 0, 0, 0, 0, 0), 0, 2), 1)), 2);
        E.answers("13: owned and shared, seat 0", mixed, x -> x.player(0, 6), 1);
        E.answers("13: owned and shared, seat 1", mixed, x -> x.player(1, 6), 2);
        E.answers("13: owned and shared, seat 2", mixed, x -> x.player(2, 6), 1 + 8);
    }

    private static void playerLimit() {
        E.answers("13: no limit without lots", NEW, x -> x.player(0, 7), NONE);
        Run lot = Run.of(x -> x.lot(0, 50));
        E.answers("13: the smaller one is g", lot.and(x -> x.fill(0, 51)), x -> x.player(0, 7), 50);
        E.answers("13: both are the same", lot.and(x -> x.fill(0, 50)), x -> x.player(0, 7), 50);
        E.answers("13: the smaller one is the purse", lot.and(x -> x.fill(0, 49)), x -> x.player(0, 7), 49);
        E.answers("13: an empty purse", lot.and(x -> x.fill(0, 0)), x -> x.player(0, 7), 0);
        E.answers("13: boldness 0", lot.and(x -> x.embolden(0, 0)), x -> x.player(0, 7), 0);
        E.answers("13: boldness 30", lot.and(x -> x.fill(0, 300), x -> x.embolden(0, 30)), x -> x.player(0, 7), 150);
        int[] boldness = {1, 9, 10, 11, 19, 20};
        int[] due = {0, 8, 9, 9, 17, 18};
        for (int i = 0; i < boldness.length; i++) {
            int bold = boldness[i];
            E.answers("13: g 9, boldness " + bold, Run.of(x -> x.lot(0, 9), x -> x.embolden(0, bold)), x -> x.player(0, 7), due[i]);
        }
        Run shares = shared(game(2, 2, 2, 2), 0, 1);
        E.answers("13: with a shared lot of its colour", shares, x -> x.player(0, 7), 10 + 4);
        Run three = shared(shared(shared(game(2, 0, 1, 2, 3, 3), 1), 1), 1);
        E.answers("13: the fourth colour is worth RAINBOW", three, x -> x.player(1, 7), 10 + 15);
        E.answers("13: with RAINBOW 100, up to the purse", three.and(x -> x.set(RAINBOW, 100)), x -> x.player(1, 7), 97);
        Run four = shared(three, 1);
        E.answers("13: nor one more of the fourth", four, x -> x.player(1, 7), 10 + 4);
        Run other = shared(shared(shared(shared(game(2, 0, 1, 2, 3, 4, 5), 1), 1), 1), 1);
        E.answers("13: nor a fifth one", other, x -> x.player(1, 7), 10);
        int[][] threeColours = {{0, 1, 2}, {1, 2, 3}, {3, 4, 5}, {0, 2, 4}, {5, 3, 1}, {0, 4, 5}};
        for (int[] owned : threeColours) {
            for (int next = 0; next <= 5; next++) {
                boolean alike = next == owned[0] || next == owned[1] || next == owned[2];
                Run lots = game(2, owned[0], owned[1], owned[2], next, 0);
                int two = next == owned[0] || next == owned[1] ? 4 : 0;
                E.answers("13: 3 colours and colour " + next, shared(shared(shared(lots, 1), 1), 1), x -> x.player(1, 7), 10 + (alike ? 4 : 15));
                E.answers("13: 2 colours and colour " + next, skipped(shared(shared(lots, 1), 1)), x -> x.player(1, 7), 10 + two);
            }
        }
        E.answers("13: SET 20 with one of its colour", shared(game(2, 0, 0, 0), 1).and(x -> x.set(SET, 20)), x -> x.player(1, 7), 30);
        E.answers("13: SET 0 with one of its colour", shared(game(2, 0, 0, 0), 1).and(x -> x.set(SET, 0)), x -> x.player(1, 7), 10);
        E.answers("13: an unsold lot of its colour is no matter", skipped(game(2, 0, 0, 0)), x -> x.player(1, 7), 10);
    }

    private static void playerLimitOfTheLastLot() {
        E.answers("13: also the last lot", game(3, 0), x -> x.player(0, 7), 10);
        E.answers("13: the last of two lots", skipped(game(3, 0, 0)), x -> x.player(0, 7), 10);
        for (int seat = 0; seat < 3; seat++) {
            int at = seat;
            E.answers("13: no next lot any more, seat " + at, behindAll(), x -> x.player(at, 7), NONE);
        }
        E.answers("13: of the lot that is auctioned", game(3, 0, 0).and(x -> x.begin(OPEN, 1)), x -> x.player(0, 7), 10);
    }

    private static void playerBids() {
        E.answers("13: no auction, no bid", game(3, 0, 0), x -> x.player(0, 8), NONE);
        for (int mode = OPEN; mode <= FALLING; mode++) {
            int how = mode;
            E.answers("13: no bid yet, mode " + how, game(3, 0, 0).and(x -> x.begin(how, 9)), x -> x.player(0, 8), NONE);
        }
        Run open = game(3, 0, 0, 0).and(x -> x.begin(OPEN, 9), x -> x.bid(0, 9), x -> x.bid(1, 14), x -> x.pass(2), x -> x.bid(0, 20));
        E.answers("13: the latest bid of two", open, x -> x.player(0, 8), 20);
        E.answers("13: also of one with a lower bid", open, x -> x.player(1, 8), 14);
        E.answers("13: none of one who passed at once", open, x -> x.player(2, 8), NONE);
        Run four = game(4, 0, 0).and(x -> x.begin(OPEN, 9), x -> x.bid(0, 9), x -> x.bid(1, 14), x -> x.bid(2, 19), x -> x.pass(3), x -> x.pass(0));
        E.answers("13: the latest bid of one who passed then", four, x -> x.player(0, 8), 9);
        Run sealed = game(3, 0, 0).and(x -> x.begin(SEALED, 9), x -> x.bid(1, 0), x -> x.bid(2, 100));
        E.answers("13: handed in 0", sealed, x -> x.player(1, 8), 0);
        E.answers("13: handed in 100", sealed, x -> x.player(2, 8), 100);
        E.answers("13: not handed in", sealed, x -> x.player(0, 8), NONE);
        Run claimed = game(3, 0, 0).and(x -> x.begin(FALLING, 9), x -> x.pass(0), x -> x.bid(2, 4));
        E.answers("13: claimed at 4", claimed, x -> x.player(2, 8), 4);
        E.answers("13: not claimed", claimed, x -> x.player(1, 8), NONE);
        E.answers("13: sold, no bid any more", open.and(x -> x.pass(1)), x -> x.player(0, 8), NONE);
        E.answers("13: nor in the next auction", open.and(x -> x.pass(1), x -> x.begin(SEALED, 1)), x -> x.player(0, 8), NONE);
        E.answers("13: behind the sealed bids", sealed.and(x -> x.bid(0, 0)), x -> x.player(2, 8), NONE);
    }

    private static void playerOut() {
        E.answers("13: no auction, not out", game(3, 0, 0), x -> x.player(0, 9), 0);
        for (int mode = OPEN; mode <= FALLING; mode++) {
            int how = mode;
            E.answers("13: nobody is out yet, mode " + how, game(3, 0, 0).and(x -> x.begin(how, 9)), x -> x.player(0, 9), 0);
        }
        Run six = game(6, 0, 0, 0).and(x -> x.begin(OPEN, 9), x -> x.pass(0), x -> x.bid(1, 9), x -> x.pass(2), x -> x.pass(3), x -> x.pass(4),
            x -> x.bid(5, 14));
        int[] due = {1, 0, 1, 1, 1, 0};
        for (int seat = 0; seat < 6; seat++) {
            int at = seat;
            E.answers("13: out, seat " + at, six, x -> x.player(at, 9), due[at]);
            E.answers("13: behind the auction nobody is out", six.and(x -> x.pass(1)), x -> x.player(at, 9), 0);
            E.answers("13: nor in the next one", six.and(x -> x.pass(1), x -> x.begin(OPEN, 9)), x -> x.player(at, 9), 0);
        }
    }

    // ---- promise 14

    private static void aboutRanges() {
        E.refuses("14: there is no lot", NEW, x -> x.about(0, 0), NO_SUCH);
        E.range("14: one lot", game(3, 5), (x, lot) -> x.about(lot, 0), Edges.ends(0, 0), NO_SUCH, 5, 5);
        E.range("14: 12 lots", game(3, 5, 0, 0, 0, 0, 0, 0, 0, 0, 0, 0, 4), (x, lot) -> x.about(lot, 0), Edges.ends(0, 11), NO_SUCH, 5, 4);
        E.range("14: what 0 to 4", game(3, 5), (x, what) -> x.about(0, what), Edges.ends(0, 4), BAD_VALUE, 5, 0);
    }

    private static void aboutOrder() {
        E.refuses("14: no lot and no number", NEW, x -> x.about(0, 5), NO_SUCH);
        E.refuses("14: no lot -1 and no number", game(3, 0), x -> x.about(-1, -1), NO_SUCH);
        E.refuses("14: no lot 12, where there would be NONE", game(3, 0, 0, 0, 0, 0, 0, 0, 0, 0, 0, 0, 0), x -> x.about(12, 3), NO_SUCH);
        E.refuses("14: a lot of the game before", game(3, 0, 0).and(x -> x.setUp(3)), x -> x.about(1, 3), NO_SUCH);
    }

    private static void states(String when, Run run, int lot, int owners, int price, int state) {
        E.answers("14: owners, " + when, run, x -> x.about(lot, 2), owners);
        E.answers("14: price, " + when, run, x -> x.about(lot, 3), price);
        E.answers("14: state, " + when, run, x -> x.about(lot, 4), state);
    }

    private static void aboutStates() {
        Run lots = game(6, 0, 0, 0);
        states("not sold yet", lots, 0, 0, NONE, 0);
        states("in its auction", lots.and(x -> x.begin(FALLING, 9), x -> x.bid(1, 9)), 0, 0, NONE, 0);
        states("unsold", skipped(lots), 0, 0, NONE, 2);
        states("behind an unsold one", skipped(lots), 1, 0, NONE, 0);
        states("sold to the first seat", shared(lots, 0), 0, 1, 1, 1);
        states("sold to the last seat", shared(lots, 5), 0, 32, 1, 1);
        states("shared by all", shared(lots, 0, 1, 2, 3, 4, 5), 0, 63, 1, 1);
        states("the last lot ahead of its turn", shared(lots, 5), 2, 0, NONE, 0);
        states("the last lot", skipped(shared(lots, 5)).and(x -> x.last()), 2, 32, 0, 1);
        states("the only lot", behindAll(), 0, 1, 0, 1);
        states("unsold in a SEALED auction", shared(lots), 0, 0, NONE, 2);
        states("unsold in an OPEN auction", game(2, 0, 0).and(x -> x.begin(OPEN, 9), x -> x.pass(0), x -> x.pass(1)), 0, 0, NONE, 2);
    }

    private static void aboutPrices() {
        Run rich = Run.of(x -> x.set(START, 300), x -> x.setUp(3), x -> x.lot(0, 1), x -> x.lot(0, 1));
        states("OPEN for 300", rich.and(x -> x.begin(OPEN, 300), x -> x.bid(0, 300), x -> x.pass(1), x -> x.pass(2)), 0, 1, 300, 1);
        states("SEALED for 300 of all three together", rich.and(x -> x.begin(SEALED, 300), x -> x.bid(0, 300), x -> x.bid(1, 300), x -> x.bid(2, 300)),
            0, 7, 300, 1);
        states("SEALED for 299 of two together", rich.and(x -> x.begin(SEALED, 1), x -> x.bid(0, 299), x -> x.bid(1, 299), x -> x.bid(2, 1)),
            0, 3, 299, 1);
        states("FALLING for 295", rich.and(x -> x.begin(FALLING, 300), x -> x.pass(0), x -> x.bid(2, 295), x -> x.pass(0)), 0, 4, 295, 1);
    }

    // ---- promise 15

    private static void countRange() {
        E.range("15: what 0 to 18", NEW, (x, what) -> x.count(what), Edges.ends(0, 18), BAD_VALUE, 3, 5);
        E.range("15: what 0 to 18 in an auction", game(6, 0, 0).and(x -> x.begin(OPEN, 9)), (x, what) -> x.count(what), Edges.ends(0, 18),
            BAD_VALUE, 6, 5);
        int[] first = {100, 5, 12, 4, 15, 5};
        int[] changed = {101, 6, 13, 5, 16, 6};
        Run all = NEW;
        for (int setting = 0; setting < 6; setting++) {
            int at = setting;
            E.answers("15: the settings are 13 to 18: " + (13 + at), NEW, x -> x.count(13 + at), first[at]);
            all = all.and(x -> x.set(at, changed[at]));
        }
        for (int setting = 0; setting < 6; setting++) {
            int at = setting;
            E.answers("15: each of its own: " + (13 + at), all, x -> x.count(13 + at), changed[at]);
        }
    }

    private static void countPlayersAndLots() {
        for (int players = 2; players <= 6; players++) {
            int n = players;
            E.answers("15: players " + n, game(n), x -> x.count(0), n);
        }
        E.answers("15: no lots", NEW, x -> x.count(1), 0);
        E.answers("15: 12 lots", game(2, 0, 0, 0, 0, 0, 0, 0, 0, 0, 0, 0, 0), x -> x.count(1), 12);
        E.answers("15: no next lot", NEW, x -> x.count(2), NONE);
        E.answers("15: the only lot is the next one", game(2, 0), x -> x.count(2), 0);
        E.answers("15: no next lot any more", behindAll(), x -> x.count(2), NONE);
        E.answers("15: an auction goes on", game(2, 0, 0).and(x -> x.begin(OPEN, 9)), x -> x.count(4), 1);
        E.answers("15: none goes on", game(2, 0, 0), x -> x.count(4), 0);
        E.answers("15: none goes on any more", skipped(game(2, 0, 0)), x -> x.count(4), 0);
    }

    private static void countWithoutAuction() {
        for (int what = 5; what <= 9; what++) {
            int at = what;
            E.answers("15: NONE if no auction goes on, " + at, NEW, x -> x.count(at), NONE);
            E.answers("15: NONE with lots, " + at, game(3, 0, 0), x -> x.count(at), NONE);
            E.answers("15: NONE behind an unsold lot, " + at, skipped(game(3, 0, 0)), x -> x.count(at), NONE);
            E.answers("15: NONE behind a sold lot, " + at, shared(game(3, 0, 0), 1), x -> x.count(at), NONE);
            Run open = game(3, 0, 0).and(x -> x.begin(OPEN, 9), x -> x.pass(0), x -> x.bid(1, 9), x -> x.pass(2));
            E.answers("15: NONE behind an OPEN auction, " + at, open, x -> x.count(at), NONE);
            E.answers("15: NONE behind the last lot, " + at, behindAll(), x -> x.count(at), NONE);
        }
    }

    private static void countHighest() {
        Run open = game(3, 0, 0).and(x -> x.begin(OPEN, 9));
        E.answers("15: OPEN, there is no bid", open, x -> x.count(6), NONE);
        E.answers("15: OPEN, there is no bid but a pass", open.and(x -> x.pass(0)), x -> x.count(6), NONE);
        E.answers("15: OPEN, the first bid", open.and(x -> x.bid(0, 9)), x -> x.count(6), 9);
        E.answers("15: OPEN, the highest bid", open.and(x -> x.bid(0, 9), x -> x.bid(1, 50)), x -> x.count(6), 50);
        E.answers("15: OPEN, a pass leaves it", open.and(x -> x.bid(0, 9), x -> x.pass(1)), x -> x.count(6), 9);
        Run sealed = game(3, 0, 0).and(x -> x.begin(SEALED, 9));
        E.answers("15: SEALED, no bid", sealed, x -> x.count(6), NONE);
        E.answers("15: SEALED, with bids", sealed.and(x -> x.bid(0, 50), x -> x.bid(1, 9)), x -> x.count(6), NONE);
        Run falling = game(3, 0, 0).and(x -> x.begin(FALLING, 9));
        E.answers("15: FALLING, the price at first", falling, x -> x.count(6), 9);
        E.answers("15: FALLING, the price when it fell", falling.and(x -> x.pass(0)), x -> x.count(6), 4);
        E.answers("15: FALLING, the price with a claim", falling.and(x -> x.bid(0, 9)), x -> x.count(6), 9);
    }

    private static void countLeaderAndTurn() {
        Run open = game(3, 0, 0).and(x -> x.begin(OPEN, 9));
        E.answers("15: OPEN, no bidder", open, x -> x.count(7), NONE);
        E.answers("15: OPEN, the highest bidder is seat 0", open.and(x -> x.bid(0, 9)), x -> x.count(7), 0);
        E.answers("15: OPEN, the highest bidder is the last seat", open.and(x -> x.bid(0, 9), x -> x.pass(1), x -> x.bid(2, 14)), x -> x.count(7), 2);
        E.answers("15: OPEN, the turn", open, x -> x.count(8), 0);
        Run sealed = game(3, 0, 0).and(x -> x.begin(SEALED, 9), x -> x.bid(1, 9));
        E.answers("15: SEALED, no bidder is told", sealed, x -> x.count(7), NONE);
        E.answers("15: SEALED, no turn", sealed, x -> x.count(8), NONE);
        Run falling = game(3, 0, 0).and(x -> x.begin(FALLING, 9), x -> x.bid(1, 9));
        E.answers("15: FALLING, no bidder", falling, x -> x.count(7), NONE);
        E.answers("15: FALLING, no turn", falling, x -> x.count(8), NONE);
    }

    private static void countBids() {
        for (int mode = OPEN; mode <= FALLING; mode++) {
            int how = mode;
            E.answers("15: no bids yet, mode " + how, game(3, 0, 0).and(x -> x.begin(how, 9)), x -> x.count(9), 0);
        }
        Run open = game(3, 0, 0).and(x -> x.begin(OPEN, 9), x -> x.bid(0, 9), x -> x.bid(1, 14), x -> x.pass(2));
        E.answers("15: passes are not counted", open, x -> x.count(9), 2);
        E.answers("15: each bid of a player", open.and(x -> x.bid(0, 19)), x -> x.count(9), 3);
        E.answers("15: a refused one is not", open.and(x -> x.bid(0, 15)), x -> x.count(9), 2);
        Run sealed = game(3, 0, 0).and(x -> x.begin(SEALED, 9), x -> x.bid(0, 0));
        E.answers("15: also those of 0", sealed, x -> x.count(9), 1);
        E.answers("15: handed in", sealed.and(x -> x.bid(2, 5)), x -> x.count(9), 2);
        Run falling = game(3, 0, 0).and(x -> x.begin(FALLING, 9), x -> x.pass(0));
        E.answers("15: a price that fell is none", falling, x -> x.count(9), 0);
        E.answers("15: claimed by all", falling.and(x -> x.bid(0, 4), x -> x.bid(1, 4), x -> x.bid(2, 4)), x -> x.count(9), 3);
    }

    private static void countSums() {
        Run empty = Run.of(x -> x.fill(0, 0), x -> x.fill(1, 0), x -> x.fill(2, 0));
        E.answers("15: the sum of empty purses", empty, x -> x.count(10), 0);
        Run full = Run.of(x -> x.set(START, 300), x -> x.setUp(6), x -> x.lot(0, 1), x -> x.lot(0, 1));
        E.answers("15: the sum of six full purses", full, x -> x.count(10), 1800);
        E.answers("15: nothing was paid", full, x -> x.count(11), 0);
        Run sold = full.and(x -> x.begin(FALLING, 300), x -> x.bid(5, 300));
        E.answers("15: nothing is paid by a claim", sold, x -> x.count(10), 1800);
        E.answers("15: the sum without what was paid", sold.and(x -> x.pass(0)), x -> x.count(10), 1500);
        E.answers("15: all that was paid", sold.and(x -> x.pass(0)), x -> x.count(11), 300);
    }

    private static void countPad() {
        E.answers("15: an empty pad", NEW, x -> x.count(12), 0);
        E.answers("15: one character", NEW.and(x -> x.put('~')), x -> x.count(12), 1);
        E.answers("15: 60 characters", NEW.times(7, x -> x.put(Due.code("mmmmmmmm"))).and(x -> x.put(Due.code("mmmm"))), x -> x.count(12), 60);
    }

    private static void questionsChangeNothing() {
        Run run = game(3, 0, 1, 2).and(x -> x.set(STEP, 3), x -> x.put('m'), x -> x.save(1), x -> x.begin(OPEN, 9), x -> x.bid(0, 9));
        int[] player = {91 + 9, 10, 0, 0, 20, 1, 0, 10, 9, 0};
        for (int what = 0; what < 10; what++) {
            int at = what;
            E.keeps("13: player() changes nothing, " + at, run, x -> x.player(0, at), player[at]);
        }
        int[] about = {0, 10, 0, NONE, 0};
        for (int what = 0; what < 5; what++) {
            int at = what;
            E.keeps("14: about() changes nothing, " + at, run, x -> x.about(0, at), about[at]);
        }
        int[] count = {3, 3, 0, 0, 1, OPEN, 9, 0, 1, 1, 300, 0, 1, 100, 3, 12, 4, 15, 5};
        for (int what = 0; what < 19; what++) {
            int at = what;
            E.keeps("15: count() changes nothing, " + at, run, x -> x.count(at), count[at]);
        }
    }
}
