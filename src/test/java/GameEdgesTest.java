/** "Players and lots", "Settings" and promises 1 to 6, a check of its own for each sentence that names an edge. */
public final class GameEdgesTest {
    private static final int NO_SUCH = -1, BAD_VALUE = -2, TOO_MANY = -4, NOT_POSSIBLE = -5, NONE = -6;
    private static final int START = 0, STEP = 1, STOPS = 2, SET = 3, RAINBOW = 4, COIN = 5;
    private static final int OPEN = 0, SEALED = 1, FALLING = 2;
    private static final int[] LEAST = {1, 1, 1, 0, 0, 1}, FIRST = {100, 5, 12, 4, 15, 5}, MOST = {300, 20, 40, 20, 100, 20};
    private static final String[] NAMES = {"START", "STEP", "STOPS", "SET", "RAINBOW", "COIN"};
    private static final Edges E = new Edges("GameEdgesTest");
    private static final Run NEW = Run.of();

    public static void main(String[] args) {
        newObject();
        newObjectKnowsNothing();
        objectsShareNothing();
        setUpRange();
        setUpReturns();
        setUpForgetsTheGame();
        setUpKeepsSettingsPadAndSlots();
        setUpTakesStart();
        setRanges();
        setNoSuchSetting();
        setInAnAuction();
        setOrder();
        startWaitsForSetUp();
        stepAtItsEnds();
        stopsAtItsEnds();
        setAndRainbowAtTheirEnds();
        coinAtItsEnds();
        fillPlayers();
        fillAmounts();
        fillForgetsWhatIsKnown();
        fillTooLate();
        fillOrder();
        emboldenRanges();
        emboldenAtAnyTime();
        emboldenAtItsEnds();
        lotRanges();
        lotNumbers();
        lotThirteenth();
        lotTooLate();
        lotOrder();
        E.end();
    }

    /** Two lots, so that one can be auctioned. */
    private static Run twoLots() {
        return Run.of(x -> x.lot(0, 10), x -> x.lot(1, 20));
    }

    private static Run inAuction(int mode) {
        return twoLots().and(x -> x.begin(mode, 30));
    }

    private static Run behindSoldLot() {
        return inAuction(FALLING).and(x -> x.bid(1, 30), x -> x.pass(0));
    }

    private static Run behindUnsoldLot() {
        return inAuction(OPEN).and(x -> x.pass(0), x -> x.pass(1), x -> x.pass(2));
    }

    private static Run twelveLots() {
        return NEW.times(12, x -> x.lot(3, 7));
    }

    // ---- promise 1

    private static void newObject() {
        E.answers("1: a game of 3 players", NEW, x -> x.count(0), 3);
        E.answers("1: seat 2 is the last one", NEW, x -> x.player(2, 0), 100);
        E.answers("1: there is no seat 3", NEW, x -> x.player(3, 0), NO_SUCH);
        E.answers("1: without lots", NEW, x -> x.count(1), 0);
        E.answers("1: no next lot", NEW, x -> x.count(2), NONE);
        E.answers("1: no lot 0", NEW, x -> x.about(0, 0), NO_SUCH);
        E.answers("1: no auction", NEW, x -> x.count(4), 0);
        E.answers("1: an empty pad", NEW, x -> x.count(12), 0);
        for (int slot = 0; slot < 2; slot++) {
            int at = slot;
            E.answers("1: nothing is saved in slot " + at, NEW, x -> x.restore(at), NOT_POSSIBLE);
        }
        for (int setting = 0; setting < 6; setting++) {
            int at = setting;
            E.answers("1: first value of " + NAMES[at], NEW, x -> x.count(13 + at), FIRST[at]);
        }
    }

    private static void newObjectKnowsNothing() {
        for (int seat = 0; seat < 3; seat++) {
            int at = seat;
            E.answers("1: boldness 10 at first", NEW, x -> x.player(at, 1), 10);
            E.answers("1: nothing paid", NEW, x -> x.player(at, 2), 0);
            E.answers("1: least 0 at first", NEW, x -> x.known(at, 0), 0);
            E.answers("1: greatest 300 at first", NEW, x -> x.known(at, 1), 300);
        }
        E.answers("1: the sum is known, 300 over 3 purses", NEW, x -> x.ways(), 302 * 301 / 2);
    }

    private static void objectsShareNothing() {
        PurseAuction one = new PurseAuction();
        PurseAuction other = new PurseAuction();
        one.setUp(5);
        one.set(COIN, 1);
        one.lot(0, 1);
        one.save(0);
        one.put('m');
        Run shared = Run.of();
        E.answers("1: players of another object", shared, x -> other.count(0), 3);
        E.answers("1: settings of another object", shared, x -> other.count(18), 5);
        E.answers("1: lots of another object", shared, x -> other.count(1), 0);
        E.answers("1: slots of another object", shared, x -> other.restore(0), NOT_POSSIBLE);
        E.answers("1: the pad of another object", shared, x -> other.count(12), 0);
    }

    // ---- promise 2

    private static void setUpRange() {
        Run.CallWith setUp = (x, players) -> x.setUp(players);
        E.range("2: players 2 to 6", NEW, setUp, Edges.ends(2, 6), BAD_VALUE, 3, 3);
        E.range("2: in an auction", inAuction(OPEN), setUp, Edges.ends(2, 6), BAD_VALUE, 3, 3);
        for (int players = 2; players <= 6; players++) {
            int n = players;
            Run game = Run.of(x -> x.setUp(n));
            E.answers("2: there are " + n, game, x -> x.count(0), n);
            E.answers("2: the last seat of " + n, game, x -> x.player(n - 1, 0), 100);
            E.answers("2: one seat more than " + n, game, x -> x.player(n, 0), NO_SUCH);
            E.answers("2: the sum of " + n, game, x -> x.count(10), 100 * n);
        }
    }

    private static void setUpReturns() {
        E.answers("2: the number that there were, from 6 to 2", Run.of(x -> x.setUp(6)), x -> x.setUp(2), 6);
        E.answers("2: the number that there were, from 2 to 6", Run.of(x -> x.setUp(2)), x -> x.setUp(6), 2);
        E.answers("2: the same number again", Run.of(x -> x.setUp(6)), x -> x.setUp(6), 6);
        E.answers("2: a refused call is no set-up", Run.of(x -> x.setUp(4), x -> x.setUp(7)), x -> x.setUp(2), 4);
    }

    /** Behind a sold lot and in an auction, with questions, boldness and payments: nothing of it is left. */
    private static void setUpForgetsTheGame() {
        Run played = Run.of(x -> x.lot(0, 10), x -> x.lot(0, 20), x -> x.lot(1, 30), x -> x.ask(0, 40), x -> x.ask(1, 101),
            x -> x.embolden(2, 30), x -> x.begin(FALLING, 60), x -> x.bid(0, 60), x -> x.pass(2),
            x -> x.begin(OPEN, 5), x -> x.bid(1, 9), x -> x.pass(2));
        E.same("2: a new game", NEW, played.and(x -> x.setUp(3)));
        E.same("2: a new game of 6", Run.of(x -> x.setUp(6)), played.and(x -> x.setUp(6)));
        E.same("2: a game of 6 after one of 2", Run.of(x -> x.setUp(6)), played.and(x -> x.setUp(2), x -> x.setUp(6)));
        Run again = played.and(x -> x.setUp(3), x -> x.lot(2, 9));
        E.same("2: a lot of the new game", Run.of(x -> x.lot(2, 9)), again);
        E.same("2: an ended game", NEW, twoLots().and(x -> x.begin(OPEN, 1), x -> x.move(), x -> x.move(), x -> x.move(),
            x -> x.move(), x -> x.move(), x -> x.move(), x -> x.last(), x -> x.setUp(3)));
    }

    private static void setUpKeepsSettingsPadAndSlots() {
        Run kept = Run.of(x -> x.set(STEP, 20), x -> x.set(COIN, 1), x -> x.put('m'), x -> x.save(0), x -> x.lot(5, 50),
            x -> x.save(1), x -> x.setUp(2));
        E.answers("2: settings stay", kept, x -> x.count(14), 20);
        E.answers("2: settings stay to the last one", kept, x -> x.count(18), 1);
        E.answers("2: settings that were never changed", kept, x -> x.count(15), 12);
        E.answers("2: the pad stays", kept, x -> x.count(12), 1);
        E.answers("2: the slot 0 stays", kept.and(x -> x.restore(0)), x -> x.count(1), 0);
        E.answers("2: the slot 1 stays", kept.and(x -> x.restore(1)), x -> x.count(1), 1);
        E.answers("2: a slot has its players", kept.and(x -> x.restore(1)), x -> x.count(0), 3);
    }

    private static void setUpTakesStart() {
        for (int start : new int[] {1, 300}) {
            Run game = Run.of(x -> x.fill(1, 7), x -> x.set(START, start), x -> x.setUp(6));
            for (int seat = 0; seat < 6; seat++) {
                int at = seat;
                E.answers("2: all purses are START " + start, game, x -> x.player(at, 0), start);
            }
            E.answers("2: the known sum of START " + start, game, x -> x.count(10), 6 * start);
            E.answers("2: greatest known stays 300", game, x -> x.known(0, 1), 300);
            E.answers("2: greatest in any way", game, x -> x.known(0, 3), Math.min(300, 6 * start));
        }
        E.answers("2: six full purses can only be full", Run.of(x -> x.set(START, 300), x -> x.setUp(6)), x -> x.ways(), 1);
        E.answers("2: 6 coins on 6 purses", Run.of(x -> x.set(START, 1), x -> x.setUp(6)), x -> x.ways(), 462);
        E.answers("2: 2 coins on 2 purses", Run.of(x -> x.set(START, 1), x -> x.setUp(2)), x -> x.ways(), 3);
    }

    // ---- promise 3 and "Settings"

    private static void setRanges() {
        for (int setting = 0; setting < 6; setting++) {
            int at = setting;
            Run.CallWith set = (x, value) -> x.set(at, value);
            E.range("3: " + NAMES[at], NEW, set, Edges.ends(LEAST[at], MOST[at]), BAD_VALUE, FIRST[at], FIRST[at]);
            for (int value : new int[] {LEAST[at], MOST[at]}) {
                Run changed = Run.of(x -> x.set(at, value));
                E.answers("3: " + NAMES[at] + " is " + value, changed, x -> x.count(13 + at), value);
                E.answers("3: the previous value " + value, changed, x -> x.set(at, FIRST[at]), value);
                for (int other = 0; other < 6; other++) {
                    int beside = other;
                    if (beside == at) continue;
                    E.answers("3: not " + NAMES[beside], changed, x -> x.count(13 + beside), FIRST[beside]);
                }
            }
        }
    }

    private static void setNoSuchSetting() {
        E.range("3: settings 0 to 5", NEW, (x, setting) -> x.set(setting, 10), Edges.ends(START, COIN), BAD_VALUE, 100, 5);
    }

    private static void setInAnAuction() {
        for (int mode = OPEN; mode <= FALLING; mode++) {
            int how = mode;
            for (int setting = 0; setting < 6; setting++) {
                int at = setting;
                E.refuses("3: an auction goes on, mode " + how, inAuction(how), x -> x.set(at, 10), NOT_POSSIBLE);
            }
        }
        E.answers("3: behind a sold lot", behindSoldLot(), x -> x.set(STEP, 9), 5);
        E.answers("3: behind an unsold lot", behindUnsoldLot(), x -> x.set(STEP, 9), 5);
        E.answers("3: behind the last lot", behindUnsoldLot().and(x -> x.last()), x -> x.set(STEP, 9), 5);
    }

    private static void setOrder() {
        E.refuses("3: no setting, in an auction", inAuction(SEALED), x -> x.set(6, 10), BAD_VALUE);
        E.refuses("3: no setting -1, in an auction", inAuction(SEALED), x -> x.set(-1, 10), BAD_VALUE);
        E.refuses("3: no value, in an auction", inAuction(SEALED), x -> x.set(STEP, 21), BAD_VALUE);
        E.refuses("3: a value too small, in an auction", inAuction(SEALED), x -> x.set(STEP, 0), BAD_VALUE);
    }

    private static void startWaitsForSetUp() {
        Run waiting = Run.of(x -> x.set(START, 300));
        E.answers("3: START takes effect when a game is set up", waiting, x -> x.player(0, 0), 100);
        E.answers("3: nor does the sum change before", waiting, x -> x.count(10), 300);
        E.answers("3: then it does", waiting.and(x -> x.setUp(3)), x -> x.player(0, 0), 300);
    }

    private static void stepAtItsEnds() {
        for (int step : new int[] {1, 20}) {
            Run open = Run.of(x -> x.set(STEP, step)).and(x -> x.lot(0, 1), x -> x.lot(0, 1), x -> x.begin(OPEN, 30), x -> x.bid(0, 40));
            E.refuses("3: a bid below STEP " + step, open, x -> x.bid(1, 39 + step), BAD_VALUE);
            E.answers("3: a bid by STEP " + step, open, x -> x.bid(1, 40 + step), NONE);
            Run falling = Run.of(x -> x.set(STEP, step), x -> x.lot(0, 1), x -> x.lot(0, 1), x -> x.begin(FALLING, 21), x -> x.pass(0));
            E.answers("3: the price falls by STEP " + step, falling, x -> x.count(6), 21 - step);
            Run gone = Run.of(x -> x.set(STEP, step), x -> x.lot(0, 1), x -> x.lot(0, 1), x -> x.begin(FALLING, step));
            E.answers("3: from STEP " + step + " to 0", gone, x -> x.pass(0), 0);
        }
    }

    private static void stopsAtItsEnds() {
        Run one = Run.of(x -> x.set(STOPS, 1), x -> x.lot(0, 1), x -> x.lot(0, 1), x -> x.begin(OPEN, 1));
        E.answers("3: STOPS 1: the first bid wins", one, x -> x.bid(0, 1), 1);
        E.answers("3: STOPS 1: passes are no bids", one.and(x -> x.pass(0)), x -> x.bid(1, 1), 2);
        Run forty = Run.of(x -> x.set(STOPS, 40), x -> x.set(STEP, 1), x -> x.setUp(2), x -> x.lot(0, 1), x -> x.lot(0, 1),
            x -> x.begin(OPEN, 1));
        for (int bid = 1; bid < 40; bid++) {
            int amount = bid;
            E.answers("3: STOPS 40: bid " + bid + " goes on", forty, x -> x.bid((amount - 1) % 2, amount), NONE);
            forty = forty.and(x -> x.bid((amount - 1) % 2, amount));
        }
        E.answers("3: STOPS 40: the last bid ends it", forty, x -> x.bid(1, 40), 2);
        Run twelve = Run.of(x -> x.setUp(2), x -> x.set(STEP, 1), x -> x.lot(0, 1), x -> x.lot(0, 1), x -> x.begin(OPEN, 1));
        for (int bid = 1; bid < 12; bid++) {
            int amount = bid;
            twelve = twelve.and(x -> x.bid((amount - 1) % 2, amount));
        }
        E.answers("3: STOPS is 12 at first: 11 bids", twelve, x -> x.count(9), 11);
        E.answers("3: STOPS is 12 at first: the twelfth", twelve, x -> x.bid(1, 12), 2);
    }

    private static void setAndRainbowAtTheirEnds() {
        Run lots = Run.of(x -> x.setUp(2)).times(2, x -> x.lot(0, 10)).and(x -> x.lot(1, 10), x -> x.lot(2, 10), x -> x.lot(3, 10), x -> x.lot(4, 10));
        Run owned = lots.times(5, x -> {
            x.begin(FALLING, 1);
            x.bid(1, 1);
            return x.pass(0);
        });
        E.answers("3: SET 4, RAINBOW 15 at first", owned, x -> x.player(1, 3), 50 + 4 + 15);
        E.answers("3: SET 0", owned.and(x -> x.set(SET, 0)), x -> x.player(1, 3), 50 + 15);
        E.answers("3: SET 20", owned.and(x -> x.set(SET, 20)), x -> x.player(1, 3), 50 + 20 + 15);
        E.answers("3: RAINBOW 0", owned.and(x -> x.set(RAINBOW, 0)), x -> x.player(1, 3), 50 + 4);
        E.answers("3: RAINBOW 100", owned.and(x -> x.set(RAINBOW, 100)), x -> x.player(1, 3), 50 + 4 + 100);
    }

    private static void coinAtItsEnds() {
        E.answers("3: COIN 5 at first", NEW.and(x -> x.fill(0, 99)), x -> x.player(0, 4), 19);
        E.answers("3: COIN 1", Run.of(x -> x.set(COIN, 1), x -> x.fill(0, 99)), x -> x.player(0, 4), 99);
        E.answers("3: COIN 20", Run.of(x -> x.set(COIN, 20), x -> x.fill(0, 99)), x -> x.player(0, 4), 4);
        E.answers("3: 19 of COIN 20", Run.of(x -> x.set(COIN, 20), x -> x.fill(0, 19)), x -> x.player(0, 4), 0);
        E.answers("3: 20 of COIN 20", Run.of(x -> x.set(COIN, 20), x -> x.fill(0, 20)), x -> x.player(0, 4), 1);
    }

    // ---- promise 4

    private static void fillPlayers() {
        Run.CallWith fill = (x, player) -> x.fill(player, 5);
        E.range("4: 3 players", NEW, fill, Edges.ends(0, 2), NO_SUCH, 100, 100);
        E.range("4: 2 players", Run.of(x -> x.setUp(2)), fill, Edges.ends(0, 1), NO_SUCH, 100, 100);
        E.range("4: 6 players", Run.of(x -> x.setUp(6)), fill, Edges.ends(0, 5), NO_SUCH, 100, 100);
    }

    private static void fillAmounts() {
        E.range("4: amount 0 to 300", NEW, (x, amount) -> x.fill(1, amount), Edges.ends(0, 300), BAD_VALUE, 100, 100);
        for (int amount : new int[] {0, 300}) {
            Run filled = Run.of(x -> x.fill(1, amount));
            E.answers("4: the purse is " + amount, filled, x -> x.player(1, 0), amount);
            E.answers("4: the previous purse " + amount, filled, x -> x.fill(1, 100), amount);
            E.answers("4: the sum with " + amount, filled, x -> x.count(10), 200 + amount);
            E.answers("4: not another purse", filled, x -> x.player(0, 0), 100);
            E.answers("4: nothing is paid by that", filled, x -> x.player(1, 2), 0);
            E.same("4: filled as it was at first", NEW, filled.and(x -> x.fill(1, 100)));
        }
        E.answers("4: the known sum is 0", Run.of(x -> x.setUp(2), x -> x.fill(0, 0), x -> x.fill(1, 0)), x -> x.ways(), 1);
        E.answers("4: the known sum is 1", Run.of(x -> x.setUp(2), x -> x.fill(0, 0), x -> x.fill(1, 1)), x -> x.ways(), 2);
    }

    private static void fillForgetsWhatIsKnown() {
        Run asked = Run.of(x -> x.ask(0, 90), x -> x.ask(0, 110), x -> x.ask(1, 100), x -> x.ask(1, 101), x -> x.fill(0, 95));
        E.answers("4: of this purse 0 is known then", asked, x -> x.known(0, 0), 0);
        E.answers("4: of this purse 300 is known then", asked, x -> x.known(0, 1), 300);
        E.answers("4: of another one the least stays", asked, x -> x.known(1, 0), 100);
        E.answers("4: of another one the greatest stays", asked, x -> x.known(1, 1), 100);
        Run same = Run.of(x -> x.ask(0, 90), x -> x.fill(0, 100));
        E.answers("4: also when filled with the same amount", same, x -> x.known(0, 0), 0);
    }

    private static void fillTooLate() {
        E.answers("4: with lots, none sold or unsold", twoLots(), x -> x.fill(0, 1), 100);
        E.answers("4: behind a question", Run.of(x -> x.ask(0, 1)), x -> x.fill(0, 1), 100);
        for (int mode = OPEN; mode <= FALLING; mode++) {
            int how = mode;
            E.refuses("4: an auction goes on, mode " + how, inAuction(how), x -> x.fill(0, 1), NOT_POSSIBLE);
        }
        E.refuses("4: a lot is sold", behindSoldLot(), x -> x.fill(0, 1), NOT_POSSIBLE);
        E.refuses("4: a lot is unsold", behindUnsoldLot(), x -> x.fill(0, 1), NOT_POSSIBLE);
        E.refuses("4: the only lot is given", Run.of(x -> x.lot(0, 1), x -> x.last()), x -> x.fill(0, 1), NOT_POSSIBLE);
        E.answers("4: in a new game", behindSoldLot().and(x -> x.setUp(3)), x -> x.fill(0, 1), 100);
    }

    private static void fillOrder() {
        E.refuses("4: no player, no amount", NEW, x -> x.fill(3, 301), NO_SUCH);
        E.refuses("4: no player, too late", inAuction(OPEN), x -> x.fill(-1, 1), NO_SUCH);
        E.refuses("4: no player, no amount, too late", behindSoldLot(), x -> x.fill(3, -1), NO_SUCH);
        E.refuses("4: no amount, too late", inAuction(SEALED), x -> x.fill(0, 301), BAD_VALUE);
        E.refuses("4: amount -1, too late", behindUnsoldLot(), x -> x.fill(0, -1), BAD_VALUE);
    }

    // ---- promise 5

    private static void emboldenRanges() {
        Run.CallWith byPlayer = (x, player) -> x.embolden(player, 5);
        E.range("5: 3 players", NEW, byPlayer, Edges.ends(0, 2), NO_SUCH, 10, 10);
        E.range("5: 2 players", Run.of(x -> x.setUp(2)), byPlayer, Edges.ends(0, 1), NO_SUCH, 10, 10);
        E.range("5: 6 players", Run.of(x -> x.setUp(6)), byPlayer, Edges.ends(0, 5), NO_SUCH, 10, 10);
        E.range("5: boldness 0 to 30", NEW, (x, boldness) -> x.embolden(2, boldness), Edges.ends(0, 30), BAD_VALUE, 10, 10);
        E.refuses("5: no player, no boldness", NEW, x -> x.embolden(3, 31), NO_SUCH);
        E.refuses("5: no player -1, no boldness", NEW, x -> x.embolden(-1, -1), NO_SUCH);
        for (int boldness : new int[] {0, 30}) {
            Run bold = Run.of(x -> x.embolden(2, boldness));
            E.answers("5: is " + boldness, bold, x -> x.player(2, 1), boldness);
            E.answers("5: the previous boldness " + boldness, bold, x -> x.embolden(2, 1), boldness);
            E.answers("5: of another one", bold, x -> x.player(1, 1), 10);
        }
    }

    private static void emboldenAtAnyTime() {
        for (int mode = OPEN; mode <= FALLING; mode++) {
            int how = mode;
            E.answers("5: in an auction, mode " + how, inAuction(how), x -> x.embolden(0, 30), 10);
        }
        E.answers("5: behind a sold lot", behindSoldLot(), x -> x.embolden(0, 30), 10);
        E.answers("5: behind the last lot", behindUnsoldLot().and(x -> x.last()), x -> x.embolden(0, 30), 10);
    }

    private static void emboldenAtItsEnds() {
        Run lots = twoLots();
        E.answers("5: boldness 0: no limit above 0", lots.and(x -> x.embolden(0, 0)), x -> x.player(0, 7), 0);
        E.answers("5: boldness 1: a tenth", lots.and(x -> x.embolden(0, 1)), x -> x.player(0, 7), 1);
        E.answers("5: boldness 9: rounded down", Run.of(x -> x.lot(0, 11), x -> x.embolden(0, 9)), x -> x.player(0, 7), 9);
        E.answers("5: boldness 30: three times", lots.and(x -> x.embolden(0, 30)), x -> x.player(0, 7), 30);
    }

    // ---- promise 6

    private static void lotRanges() {
        E.range("6: colour 0 to 5", NEW, (x, colour) -> x.lot(colour, 9), Edges.ends(0, 5), BAD_VALUE, 0, 0);
        E.range("6: worth 1 to 50", NEW, (x, worth) -> x.lot(3, worth), Edges.ends(1, 50), BAD_VALUE, 0, 0);
        E.refuses("6: both out of range", NEW, x -> x.lot(6, 51), BAD_VALUE);
        for (int worth : new int[] {1, 50}) E.answers("6: is worth " + worth, Run.of(x -> x.lot(3, worth)), x -> x.about(0, 1), worth);
        for (int colour : new int[] {0, 5}) E.answers("6: has colour " + colour, Run.of(x -> x.lot(colour, 9)), x -> x.about(0, 0), colour);
    }

    private static void lotNumbers() {
        for (int lots = 0; lots < 12; lots++) {
            int number = lots;
            Run before = NEW.times(lots, x -> x.lot(0, 9));
            E.answers("6: behind all others: lot " + number, before, x -> x.lot(number % 6, number + 1), number);
            Run with = before.and(x -> x.lot(number % 6, number + 1));
            E.answers("6: its colour, lot " + number, with, x -> x.about(number, 0), number % 6);
            E.answers("6: its worth, lot " + number, with, x -> x.about(number, 1), number + 1);
            E.answers("6: there are so many, lot " + number, with, x -> x.count(1), number + 1);
        }
    }

    private static void lotThirteenth() {
        E.refuses("6: there are 12 lots", twelveLots(), x -> x.lot(0, 1), TOO_MANY);
        E.answers("6: lot 11 is there", twelveLots(), x -> x.about(11, 1), 7);
        E.answers("6: lot 12 is not", twelveLots(), x -> x.about(12, 1), NO_SUCH);
        E.answers("6: 12 lots of a new game", twelveLots().and(x -> x.setUp(3)), x -> x.lot(0, 1), 0);
    }

    private static void lotTooLate() {
        for (int mode = OPEN; mode <= FALLING; mode++) {
            int how = mode;
            E.refuses("6: an auction goes on, mode " + how, inAuction(how), x -> x.lot(0, 1), NOT_POSSIBLE);
        }
        E.refuses("6: a lot is sold", behindSoldLot(), x -> x.lot(0, 1), NOT_POSSIBLE);
        E.refuses("6: a lot is unsold", behindUnsoldLot(), x -> x.lot(0, 1), NOT_POSSIBLE);
        E.refuses("6: the only lot is given", Run.of(x -> x.lot(0, 1), x -> x.last()), x -> x.lot(0, 1), NOT_POSSIBLE);
    }

    private static void lotOrder() {
        Run full = twelveLots();
        Run fullInAuction = full.and(x -> x.begin(OPEN, 1));
        E.refuses("6: no colour, 12 lots", full, x -> x.lot(6, 1), BAD_VALUE);
        E.refuses("6: no worth, 12 lots", full, x -> x.lot(0, 0), BAD_VALUE);
        E.refuses("6: no colour, in an auction", inAuction(OPEN), x -> x.lot(-1, 1), BAD_VALUE);
        E.refuses("6: no worth, in an auction", inAuction(OPEN), x -> x.lot(0, 51), BAD_VALUE);
        E.refuses("6: 12 lots, in an auction", fullInAuction, x -> x.lot(0, 1), TOO_MANY);
        E.refuses("6: no colour, 12 lots, in an auction", fullInAuction, x -> x.lot(6, 1), BAD_VALUE);
        Run behindUnsold = full.and(x -> x.begin(FALLING, 1), x -> x.pass(0));
        E.refuses("6: 12 lots, one is unsold", behindUnsold, x -> x.lot(0, 1), TOO_MANY);
        Run behindSold = full.and(x -> x.begin(FALLING, 1), x -> x.bid(0, 1), x -> x.pass(0));
        E.refuses("6: 12 lots, one is sold", behindSold, x -> x.lot(0, 1), TOO_MANY);
    }
}
