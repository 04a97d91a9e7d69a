/** Promises 26 and 27, a check of its own for each sentence that names an edge. */
public final class SavingEdgesTest {
    private static final int BAD_VALUE = -2, NOT_POSSIBLE = -5, NONE = -6;
    private static final int START = 0, STEP = 1, STOPS = 2, SET = 3, RAINBOW = 4, COIN = 5;
    private static final int OPEN = 0, SEALED = 1, FALLING = 2;
    private static final Edges E = new Edges("SavingEdgesTest");
    private static final Run NEW = Run.of();

    public static void main(String[] args) {
        saveRange();
        restoreRange();
        restoreOfNothing();
        returnsTheLotsThatAreDone();
        restoresEverything();
        restoresAuctions();
        padsAreNotSaved();
        slotsAreNotSaved();
        slotsAreOverwritten();
        slotsAreTwo();
        slotsKeepIt();
        numbersOfPlayers();
        settingsOfSlots();
        E.end();
    }

    private static Run game(int players, int lots) {
        return Run.of(x -> x.setUp(players)).times(lots, x -> x.lot(0, 20));
    }

    private static long skipLot(PurseAuction x) {
        x.begin(FALLING, 1);
        return x.pass(0);
    }

    private static void saveRange() {
        E.range("26: slot 0 or 1", NEW, (x, slot) -> x.save(slot), Edges.ends(0, 1), BAD_VALUE, 0, 0);
        Run saved = Run.of(x -> x.fill(0, 1), x -> x.save(0), x -> x.fill(0, 2), x -> x.save(1), x -> x.fill(0, 3));
        E.range("26: a slot that is not there takes no other's place", saved, (x, slot) -> x.save(slot), Edges.ends(0, 1), BAD_VALUE, 0, 0);
    }

    private static void restoreRange() {
        Run saved = Run.of(x -> x.fill(0, 1), x -> x.save(0), x -> x.fill(0, 2), x -> x.save(1), x -> x.fill(0, 3));
        E.range("27: slot 0 or 1", saved, (x, slot) -> x.restore(slot), Edges.ends(0, 1), BAD_VALUE, 0, 0);
        E.range("27: no such slot, also where nothing was saved", NEW, (x, slot) -> x.restore(slot), Edges.ends(0, 1), BAD_VALUE,
            NOT_POSSIBLE, NOT_POSSIBLE);
    }

    private static void restoreOfNothing() {
        for (int slot = 0; slot <= 1; slot++) {
            int at = slot;
            E.refuses("27: nothing was saved in " + at, NEW, x -> x.restore(at), NOT_POSSIBLE);
            E.refuses("27: only in the other one", game(2, 2).and(x -> x.save(1 - at)), x -> x.restore(at), NOT_POSSIBLE);
            E.refuses("27: a refused save() saves nothing", NEW.and(x -> x.save(2), x -> x.save(-1)), x -> x.restore(at), NOT_POSSIBLE);
            E.refuses("27: nor in an auction", game(2, 2).and(x -> x.begin(OPEN, 9)), x -> x.restore(at), NOT_POSSIBLE);
            E.answers("27: a new object can be saved", NEW.and(x -> x.save(at)), x -> x.restore(at), 0);
        }
    }

    private static void returnsTheLotsThatAreDone() {
        Run lots = game(2, 12);
        for (int done = 0; done < 11; done++) {
            int number = done;
            E.answers("26: lots that are sold or unsold: " + number, lots, x -> x.save(0), number);
            E.answers("26: also in an auction: " + number, lots.and(x -> x.begin(SEALED, 1)), x -> x.save(1), number);
            E.answers("27: of what is restored: " + number, lots.and(x -> x.save(1), SavingEdgesTest::skipLot), x -> x.restore(1), number);
            lots = number % 2 == 0 ? lots.and(SavingEdgesTest::skipLot) : lots.and(x -> x.begin(FALLING, 1), x -> x.bid(1, 1), x -> x.pass(0));
        }
        E.answers("26: with the last one", lots.and(x -> x.last()), x -> x.save(0), 12);
        E.answers("27: with the last one", lots.and(x -> x.last(), x -> x.save(0), x -> x.setUp(2)), x -> x.restore(0), 12);
        E.answers("27: none of what was saved at first", NEW.and(x -> x.save(0)).and(x -> x.lot(0, 1), x -> x.last()), x -> x.restore(0), 0);
    }

    /** A game with something of everything, in which an auction is over. */
    private static Run richGame() {
        return Run.of(x -> x.setUp(4), x -> x.set(START, 77), x -> x.set(STEP, 3), x -> x.set(STOPS, 7), x -> x.set(SET, 9), x -> x.set(RAINBOW, 1),
            x -> x.set(COIN, 2), x -> x.lot(3, 30), x -> x.lot(2, 20), x -> x.lot(3, 10), x -> x.lot(0, 5), x -> x.fill(3, 60), x -> x.embolden(2, 22),
            x -> x.ask(1, 101), x -> x.ask(0, 55), x -> x.begin(SEALED, 13), x -> x.bid(1, 15), x -> x.bid(0, 15), x -> x.bid(2, 3), x -> x.bid(3, 0));
    }

    private static Run otherGame(Run run) {
        return run.and(x -> x.setUp(2), x -> x.set(START, 9), x -> x.set(STEP, 20), x -> x.set(STOPS, 1), x -> x.set(SET, 0), x -> x.set(RAINBOW, 99),
            x -> x.set(COIN, 20), x -> x.setUp(6), x -> x.lot(5, 50), x -> x.lot(5, 50), x -> x.lot(4, 40), x -> x.embolden(0, 30), x -> x.ask(2, 9),
            x -> x.begin(FALLING, 9), x -> x.bid(5, 9), x -> x.pass(0), x -> x.begin(OPEN, 1), x -> x.bid(1, 3), x -> x.pass(2));
    }

    private static void restoresEverything() {
        Run saved = richGame().and(x -> x.save(0));
        E.same("26: save() leaves the game as it is", richGame().and(x -> x.save(0), x -> x.save(0)), saved);
        Run restored = otherGame(saved).and(x -> x.restore(0));
        E.same("27: everything, behind another game", saved, restored);
        Run.Call[] on = {x -> x.begin(OPEN, 4), x -> x.move(), x -> x.move(), x -> x.pass(3), x -> x.move()};
        E.same("27: and it is played on in the same way", saved.and(on), restored.and(on));
        E.same("27: to its end", saved.and(on).times(20, x -> x.move()).and(x -> x.begin(FALLING, 9), x -> x.move(), x -> x.move(), x -> x.last()),
            restored.and(on).times(20, x -> x.move()).and(x -> x.begin(FALLING, 9), x -> x.move(), x -> x.move(), x -> x.last()));
        E.same("27: START counts in the next game", saved.and(x -> x.setUp(5)), restored.and(x -> x.setUp(5)));
        E.same("27: the last lot was given", richGame().and(x -> x.save(0)), richGame().and(x -> x.save(0)).times(2, SavingEdgesTest::skipLot)
            .and(x -> x.last(), x -> x.restore(0)));
    }

    private static void restoresAuctions() {
        Run[] auctions = {
            game(3, 3).and(x -> x.begin(OPEN, 7)),
            game(3, 3).and(x -> x.begin(OPEN, 7), x -> x.pass(0), x -> x.bid(1, 11)),
            game(6, 3).and(x -> x.begin(OPEN, 7), x -> x.bid(0, 7), x -> x.pass(1), x -> x.bid(2, 12), x -> x.pass(3), x -> x.pass(4), x -> x.pass(5)),
            game(3, 3).and(x -> x.begin(SEALED, 7)),
            game(3, 3).and(x -> x.begin(SEALED, 7), x -> x.bid(2, 0), x -> x.bid(0, 19)),
            game(3, 3).and(x -> x.begin(FALLING, 47)),
            game(3, 3).and(x -> x.begin(FALLING, 47), x -> x.pass(1), x -> x.bid(2, 42))};
        for (Run auction : auctions) {
            Run saved = auction.and(x -> x.save(1));
            Run ended = saved.times(9, x -> x.move());
            for (Run other : new Run[] {ended, otherGame(saved), saved.and(x -> x.setUp(2))}) {
                Run restored = other.and(x -> x.restore(1));
                E.same("27: an auction that goes on", saved, restored);
                for (int moves = 1; moves <= 5; moves++) {
                    E.same("27: is played on, " + moves + " moves", saved.times(moves, x -> x.move()), restored.times(moves, x -> x.move()));
                }
            }
        }
        Run none = game(3, 3).and(x -> x.save(1));
        E.same("27: no auction went on then", none, none.and(x -> x.begin(OPEN, 7), x -> x.bid(0, 7), x -> x.restore(1)));
    }

    private static void padsAreNotSaved() {
        Run saved = NEW.and(x -> x.put(Due.code("m,f")), x -> x.save(0));
        E.answers("26: the pad stays", saved, x -> x.count(12), 3);
        E.answers("27: a wiped pad stays empty", saved.and(x -> x.wipe(), x -> x.restore(0)), x -> x.count(12), 0);
        E.answers("27: a longer pad stays", saved.and(x -> x.put(','), x -> x.restore(0)), x -> x.count(12), 4);
        E.answers("27: with its text", saved.and(x -> x.put(','), x -> x.restore(0)), x -> x.fault(), 4);
        E.answers("27: a new text stays", saved.and(x -> x.wipe(), x -> x.put(Due.code("xy")), x -> x.restore(0)), x -> x.fault(), 0);
    }

    private static void slotsAreNotSaved() {
        Run both = Run.of(x -> x.fill(0, 1), x -> x.save(0), x -> x.fill(0, 2), x -> x.save(1), x -> x.fill(0, 3), x -> x.save(0));
        Run back = both.and(x -> x.restore(1));
        E.answers("26: what slot 1 kept", back, x -> x.player(0, 0), 2);
        E.answers("26: slot 0 is not as it was then", back.and(x -> x.restore(0)), x -> x.player(0, 0), 3);
        Run empty = NEW.and(x -> x.save(0), x -> x.save(1), x -> x.restore(0));
        E.answers("26: slot 1 was empty when slot 0 was saved", empty, x -> x.restore(1), 0);
    }

    private static void slotsAreOverwritten() {
        for (int slot = 0; slot <= 1; slot++) {
            int at = slot;
            Run twice = game(2, 3).and(x -> x.save(at), SavingEdgesTest::skipLot, x -> x.save(at), SavingEdgesTest::skipLot);
            E.answers("26: overwrites what was saved there", twice, x -> x.restore(at), 1);
            Run fewer = otherGame(richGame().and(x -> x.save(at))).and(x -> x.setUp(2), x -> x.save(at), x -> x.setUp(6));
            E.answers("26: also by a smaller game: players", fewer.and(x -> x.restore(at)), x -> x.count(0), 2);
            E.answers("26: also by a smaller game: lots", fewer.and(x -> x.restore(at)), x -> x.count(1), 0);
        }
    }

    private static void slotsAreTwo() {
        Run both = Run.of(x -> x.fill(0, 1), x -> x.save(0), x -> x.fill(0, 2), x -> x.save(1), x -> x.fill(0, 3));
        E.answers("27: slot 0 of two", both.and(x -> x.restore(0)), x -> x.player(0, 0), 1);
        E.answers("27: slot 1 of two", both.and(x -> x.restore(1)), x -> x.player(0, 0), 2);
        E.answers("27: slot 1 behind slot 0", both.and(x -> x.restore(0), x -> x.restore(1)), x -> x.player(0, 0), 2);
        E.answers("27: slot 0 behind slot 1", both.and(x -> x.restore(1), x -> x.restore(0)), x -> x.player(0, 0), 1);
    }

    private static void slotsKeepIt() {
        Run restored = Run.of(x -> x.fill(0, 1), x -> x.embolden(1, 4), x -> x.save(0), x -> x.restore(0));
        Run changed = restored.and(x -> x.fill(0, 2), x -> x.embolden(1, 5), x -> x.ask(0, 1), x -> x.lot(0, 1), x -> x.set(COIN, 1));
        E.same("27: the slot keeps it, whatever changes then", restored, changed.and(x -> x.restore(0)));
        E.same("27: a third time", restored, changed.and(x -> x.restore(0), x -> x.lot(0, 5), x -> x.last(), x -> x.restore(0)));
        Run auction = game(2, 3).and(x -> x.begin(SEALED, 9), x -> x.bid(0, 9), x -> x.save(0));
        E.same("27: the auction in a slot is not played on", auction, auction.and(x -> x.bid(1, 3), x -> x.restore(0), x -> x.bid(1, 30), x -> x.restore(0)));
        E.same("26: nor is what was saved changed by playing on", auction.and(x -> x.restore(0)), auction.and(x -> x.move(), x -> x.restore(0)));
    }

    private static void numbersOfPlayers() {
        for (int saved = 2; saved <= 6; saved++) {
            for (int then = 2; then <= 6; then++) {
                int players = saved;
                int others = then;
                Run restored = Run.of(x -> x.setUp(players), x -> x.save(0), x -> x.setUp(others), x -> x.restore(0));
                E.answers("27: with its number of players", restored, x -> x.count(0), players);
                E.answers("27: the last seat of " + players, restored, x -> x.player(players - 1, 0), 100);
                E.answers("27: no seat behind it", restored, x -> x.player(players, 0), -1);
                E.answers("2: so many there were", restored, x -> x.setUp(others), players);
            }
        }
    }

    private static void settingsOfSlots() {
        int[] least = {1, 1, 1, 0, 0, 1};
        int[] most = {300, 20, 40, 20, 100, 20};
        for (int setting = 0; setting < 6; setting++) {
            int at = setting;
            Run saved = Run.of(x -> x.set(at, least[at]), x -> x.save(1), x -> x.set(at, most[at]));
            E.answers("26: the settings go on without the slot", saved, x -> x.count(13 + at), most[at]);
            E.answers("27: with its settings, " + at, saved.and(x -> x.restore(1)), x -> x.count(13 + at), least[at]);
            E.answers("3: that was the previous value", saved.and(x -> x.restore(1)), x -> x.set(at, most[at]), least[at]);
        }
        E.answers("27: without an auction, count(5) is NONE", NEW.and(x -> x.save(0), x -> x.restore(0)), x -> x.count(5), NONE);
    }
}
