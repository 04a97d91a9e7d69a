/** "What is known" and promises 12 and 16 to 18, a check of its own for each sentence that names an edge. */
public final class KnownEdgesTest {
    private static final int NO_SUCH = -1, BAD_VALUE = -2, NOT_POSSIBLE = -5, NONE = -6;
    private static final int START = 0, STEP = 1;
    private static final int OPEN = 0, SEALED = 1, FALLING = 2;
    private static final Edges E = new Edges("KnownEdgesTest");
    private static final Run NEW = Run.of();

    public static void main(String[] args) {
        askRanges();
        askInAnAuction();
        askOrder();
        askJustThePurse();
        askFullAndEmptyPurses();
        askTellsOnlyMore();
        openBidsTell();
        claimsTell();
        sealedBidsTellAtTheEnd();
        refusedCallsTellNothing();
        payingDecreasesBoth();
        payingASharedBid();
        payingWhatWasKnown();
        knownRanges();
        knownOrder();
        leastAndGreatestInAnyWay();
        averages();
        waysOfNewGames();
        waysAtTheEnds();
        waysByQuestions();
        canPayRanges();
        canPayAtItsEnds();
        canPayByQuestions();
        questionsChangeNothing();
        E.end();
    }

    private static Run begun(int mode, int reserve) {
        return Run.of(x -> x.lot(0, 20), x -> x.lot(0, 20), x -> x.lot(0, 20), x -> x.begin(mode, reserve));
    }

    private static Run purses(int... amounts) {
        Run run = Run.of(x -> x.setUp(amounts.length));
        for (int seat = 0; seat < amounts.length; seat++) {
            int at = seat;
            run = run.and(x -> x.fill(at, amounts[at]));
        }
        return run;
    }

    /** What is known of a purse: the least and the greatest value. */
    private static void knows(String sentence, Run run, int seat, int least, int greatest) {
        E.answers(sentence + ": the least of seat " + seat, run, x -> x.known(seat, 0), least);
        E.answers(sentence + ": the greatest of seat " + seat, run, x -> x.known(seat, 1), greatest);
    }

    // ---- promise 12

    private static void askRanges() {
        Run.CallWith byPlayer = (x, player) -> x.ask(player, 100);
        E.range("12: 2 players", purses(100, 100), byPlayer, Edges.ends(0, 1), NO_SUCH, 1, 1);
        E.range("12: 3 players", NEW, byPlayer, Edges.ends(0, 2), NO_SUCH, 1, 1);
        E.range("12: 6 players", purses(100, 1, 1, 1, 1, 99), byPlayer, Edges.ends(0, 5), NO_SUCH, 1, 0);
        E.range("12: amount 1 to 300", NEW, (x, amount) -> x.ask(0, amount), Edges.ends(1, 300), BAD_VALUE, 1, 0);
    }

    private static void askInAnAuction() {
        for (int mode = OPEN; mode <= FALLING; mode++) {
            int how = mode;
            E.refuses("12: an auction goes on, mode " + how, begun(how, 9), x -> x.ask(0, 100), NOT_POSSIBLE);
        }
        E.answers("12: without lots", NEW, x -> x.ask(0, 100), 1);
        E.answers("12: behind an auction", begun(FALLING, 1).and(x -> x.pass(0)), x -> x.ask(0, 100), 1);
        E.answers("12: behind the last lot", Run.of(x -> x.lot(0, 1), x -> x.last()), x -> x.ask(0, 100), 1);
    }

    private static void askOrder() {
        E.refuses("12: no player and no amount", NEW, x -> x.ask(3, 0), NO_SUCH);
        E.refuses("12: no player and an auction", begun(OPEN, 9), x -> x.ask(-1, 100), NO_SUCH);
        E.refuses("12: no amount and an auction", begun(OPEN, 9), x -> x.ask(0, 301), BAD_VALUE);
        E.refuses("12: amount 0 and an auction", begun(OPEN, 9), x -> x.ask(0, 0), BAD_VALUE);
        E.refuses("12: no player, no amount and an auction", begun(OPEN, 9), x -> x.ask(3, 0), NO_SUCH);
    }

    private static void askJustThePurse() {
        E.answers("12: has just the amount", NEW, x -> x.ask(1, 100), 1);
        E.answers("12: has 1 less", NEW, x -> x.ask(1, 101), 0);
        E.answers("12: has 1 more", NEW, x -> x.ask(1, 99), 1);
        knows("12: a least value of this amount", NEW.and(x -> x.ask(1, 100)), 1, 100, 300);
        knows("12: a greatest one of 1 less", NEW.and(x -> x.ask(1, 101)), 1, 0, 100);
        knows("12: both", NEW.and(x -> x.ask(1, 100), x -> x.ask(1, 101)), 1, 100, 100);
        knows("12: of no other purse", NEW.and(x -> x.ask(1, 100), x -> x.ask(1, 101)), 0, 0, 300);
    }

    private static void askFullAndEmptyPurses() {
        E.answers("12: an empty purse has not 1", purses(0, 300), x -> x.ask(0, 1), 0);
        knows("12: so it is empty", purses(0, 300).and(x -> x.ask(0, 1)), 0, 0, 0);
        E.answers("12: a full purse has 300", purses(0, 300), x -> x.ask(1, 300), 1);
        knows("12: so it is full", purses(0, 300).and(x -> x.ask(1, 300)), 1, 300, 300);
        E.answers("12: 299 has not 300", purses(0, 299), x -> x.ask(1, 300), 0);
        knows("12: so it has at most 299", purses(0, 299).and(x -> x.ask(1, 300)), 1, 0, 299);
        E.answers("12: 1 has 1", purses(1, 299), x -> x.ask(0, 1), 1);
        knows("12: so it has at least 1", purses(1, 299).and(x -> x.ask(0, 1)), 0, 1, 300);
    }

    private static void askTellsOnlyMore() {
        Run asked = NEW.and(x -> x.ask(0, 80), x -> x.ask(0, 121));
        knows("12: a smaller least value tells no more", asked.and(x -> x.ask(0, 79)), 0, 80, 120);
        knows("12: the same least value", asked.and(x -> x.ask(0, 80)), 0, 80, 120);
        knows("12: a least value greater by 1 tells more", asked.and(x -> x.ask(0, 81)), 0, 81, 120);
        knows("12: a greater greatest value tells no more", asked.and(x -> x.ask(0, 122)), 0, 80, 120);
        knows("12: the same greatest value", asked.and(x -> x.ask(0, 121)), 0, 80, 120);
        knows("12: a greatest value less by 1 tells more", asked.and(x -> x.ask(0, 120)), 0, 80, 119);
    }

    // ---- what bids tell

    private static void openBidsTell() {
        Run bid = begun(OPEN, 9).and(x -> x.bid(0, 40));
        knows("known: a bid in an OPEN auction tells at once", bid, 0, 40, 300);
        knows("known: nothing of the others", bid, 1, 0, 300);
        knows("known: a pass tells nothing", bid.and(x -> x.pass(1)), 1, 0, 300);
        knows("known: a higher bid tells more", bid.and(x -> x.bid(1, 45), x -> x.pass(2), x -> x.bid(0, 50)), 0, 50, 300);
        knows("known: the bid of a loser stays known", bid.and(x -> x.bid(1, 45), x -> x.pass(2), x -> x.pass(0)), 0, 40, 300);
        Run asked = Run.of(x -> x.lot(0, 1), x -> x.lot(0, 1), x -> x.ask(0, 40), x -> x.begin(OPEN, 9));
        knows("known: a bid below the least value tells nothing", asked.and(x -> x.bid(0, 39)), 0, 40, 300);
        knows("known: a bid of the least value tells nothing", asked.and(x -> x.bid(0, 40)), 0, 40, 300);
        knows("known: a bid above the least value by 1", asked.and(x -> x.bid(0, 41)), 0, 41, 300);
    }

    private static void claimsTell() {
        Run claim = begun(FALLING, 100).and(x -> x.bid(1, 100));
        knows("known: a claim tells at once", claim, 1, 100, 300);
        knows("known: who did not claim tells nothing", claim, 0, 0, 300);
        knows("known: a claim that comes too late tells, too", claim.and(x -> x.bid(2, 100), x -> x.pass(0)), 2, 100, 300);
        knows("known: a falling price tells nothing", begun(FALLING, 100).and(x -> x.pass(0)), 0, 0, 300);
        Run asked = Run.of(x -> x.lot(0, 1), x -> x.lot(0, 1), x -> x.ask(0, 40), x -> x.begin(FALLING, 39), x -> x.bid(0, 39));
        knows("known: a claim below the least value tells nothing", asked, 0, 40, 300);
    }

    private static void sealedBidsTellAtTheEnd() {
        Run two = begun(SEALED, 50).and(x -> x.bid(0, 40), x -> x.bid(1, 0));
        knows("known: a sealed bid tells nothing until the end", two, 0, 0, 300);
        Run unsold = two.and(x -> x.bid(2, 49));
        knows("known: each bid that was handed in, unsold: 40", unsold, 0, 40, 300);
        knows("known: each bid that was handed in, unsold: 0", unsold, 1, 0, 300);
        knows("known: each bid that was handed in, unsold: 49", unsold, 2, 49, 300);
        Run sold = two.and(x -> x.bid(2, 50));
        knows("known: sold, of a loser", sold, 0, 40, 300);
        knows("known: sold, of the winner, who paid", sold, 2, 0, 250);
    }

    private static void refusedCallsTellNothing() {
        E.refuses("known: a bid that is refused, OPEN", begun(OPEN, 9), x -> x.bid(0, 8), BAD_VALUE);
        E.refuses("known: a bid above the purse, OPEN", begun(OPEN, 9), x -> x.bid(0, 101), BAD_VALUE);
        E.refuses("known: a bid that is refused, SEALED", begun(SEALED, 9), x -> x.bid(0, 101), BAD_VALUE);
        E.refuses("known: a claim that is refused", begun(FALLING, 101), x -> x.bid(0, 101), BAD_VALUE);
        E.refuses("known: a question that is refused", begun(FALLING, 101), x -> x.ask(0, 101), NOT_POSSIBLE);
    }

    // ---- what payments tell

    private static void payingDecreasesBoth() {
        Run sold = begun(OPEN, 9).and(x -> x.bid(0, 30), x -> x.pass(1), x -> x.pass(2));
        knows("known: paid as much as was known: the least value is 0", sold, 0, 0, 270);
        knows("known: who pays nothing", sold, 1, 0, 300);
        Run all = begun(FALLING, 100).and(x -> x.bid(2, 100), x -> x.pass(0));
        knows("known: the whole purse is paid", all, 2, 0, 200);
        Run rich = purses(300, 0).and(x -> x.lot(0, 1), x -> x.lot(0, 1), x -> x.begin(FALLING, 300), x -> x.bid(0, 300), x -> x.pass(0));
        knows("known: 300 is paid", rich, 0, 0, 0);
        Run two = begun(FALLING, 40).and(x -> x.bid(1, 40), x -> x.pass(0), x -> x.begin(FALLING, 50), x -> x.bid(1, 50), x -> x.pass(0));
        knows("known: paid twice", two, 1, 0, 210);
    }

    private static void payingASharedBid() {
        Run shared = begun(SEALED, 9).and(x -> x.bid(0, 31), x -> x.bid(1, 31), x -> x.bid(2, 30));
        knows("known: half of 31 and 1 more", shared, 0, 15, 284);
        knows("known: half of 31", shared, 1, 16, 285);
        knows("known: a lower bid", shared, 2, 30, 300);
        Run one = begun(SEALED, 1).and(x -> x.bid(0, 1), x -> x.bid(1, 1), x -> x.bid(2, 1));
        knows("known: who pays the 1", one, 0, 0, 299);
        knows("known: who pays nothing of 1", one, 2, 1, 300);
    }

    private static void payingWhatWasKnown() {
        Run asked = Run.of(x -> x.lot(0, 1), x -> x.lot(0, 1), x -> x.ask(0, 90), x -> x.ask(0, 101), x -> x.begin(FALLING, 30),
            x -> x.bid(0, 30), x -> x.pass(0));
        knows("known: both decrease by what is paid", asked, 0, 60, 70);
        E.answers("known: the sum as it is now", asked, x -> x.count(10), 270);
        E.answers("known: one more is more than it can be", asked, x -> x.canPay(0, 71), 0);
        Run last = asked.and(x -> x.last());
        knows("known: the last lot is free", last, 0, 60, 70);
        E.answers("12: asked for the new greatest value", asked, x -> x.ask(0, 70), 1);
        E.answers("12: asked for 1 more", asked, x -> x.ask(0, 71), 0);
        knows("12: which told nothing", asked.and(x -> x.ask(0, 71)), 0, 60, 70);
    }

    // ---- promise 16

    private static void knownRanges() {
        for (int players = 2; players <= 6; players++) {
            int n = players;
            E.range("16: " + n + " players", Run.of(x -> x.setUp(n)), (x, player) -> x.known(player, 4), Edges.ends(0, n - 1), NO_SUCH, 100, 100);
        }
        E.range("16: what 0 to 4", NEW, (x, what) -> x.known(2, what), Edges.ends(0, 4), BAD_VALUE, 0, 100);
    }

    private static void knownOrder() {
        E.refuses("16: no player and no number", NEW, x -> x.known(3, 5), NO_SUCH);
        E.refuses("16: no player -1 and no number", NEW, x -> x.known(-1, -1), NO_SUCH);
    }

    private static void anyWay(String sentence, Run run, int seat, int least, int greatest, int average) {
        E.answers("16: least, " + sentence, run, x -> x.known(seat, 2), least);
        E.answers("16: greatest, " + sentence, run, x -> x.known(seat, 3), greatest);
        E.answers("16: average, " + sentence, run, x -> x.known(seat, 4), average);
    }

    private static void leastAndGreatestInAnyWay() {
        anyWay("two empty purses", purses(0, 0), 1, 0, 0, 0);
        anyWay("a sum of 1", purses(0, 1), 0, 0, 1, 0);
        anyWay("a sum of 299", purses(150, 149), 0, 0, 299, 149);
        anyWay("a sum of 300", purses(150, 150), 0, 0, 300, 150);
        anyWay("a sum of 301", purses(150, 151), 0, 1, 300, 150);
        anyWay("a sum of 599", purses(299, 300), 0, 299, 300, 299);
        anyWay("two full purses", purses(300, 300), 0, 300, 300, 300);
        anyWay("six empty purses", purses(0, 0, 0, 0, 0, 0), 5, 0, 0, 0);
        anyWay("six full purses", purses(300, 300, 300, 300, 300, 300), 5, 300, 300, 300);
        anyWay("six purses, 1 is missing", purses(300, 300, 299, 300, 300, 300), 5, 299, 300, 299);
        anyWay("a sum of 300 of six", purses(300, 0, 0, 0, 0, 0), 5, 0, 300, 50);
        anyWay("a sum of 1500 of six", purses(300, 300, 300, 300, 300, 0), 5, 0, 300, 250);
        anyWay("a sum of 1501 of six", purses(300, 300, 300, 300, 300, 1), 5, 1, 300, 250);
        Run known = purses(10, 20, 30).and(x -> x.ask(0, 10), x -> x.ask(0, 11));
        anyWay("known wholly", known, 0, 10, 10, 10);
        anyWay("the others share the rest", known, 1, 0, 50, 25);
        Run least = purses(10, 20, 30).and(x -> x.ask(0, 10), x -> x.ask(1, 20));
        anyWay("the least values of the others leave less", least, 2, 0, 30, 10);
        anyWay("the own least value", least, 0, 10, 40, 20);
        Run greatest = purses(10, 20, 30).and(x -> x.ask(0, 11), x -> x.ask(1, 21));
        anyWay("the greatest values of the others leave more", greatest, 2, 30, 60, 45);
        anyWay("the own greatest value", greatest, 0, 0, 10, 5);
    }

    private static void averages() {
        Run two = purses(1, 2).and(x -> x.ask(0, 3), x -> x.ask(1, 4));
        anyWay("0, 1 and 2: 3 over 3", two, 0, 0, 2, 1);
        Run half = purses(1, 2).and(x -> x.ask(0, 2), x -> x.ask(1, 4));
        anyWay("0 and 1: rounded down", half, 0, 0, 1, 0);
        anyWay("3 and 2: rounded down", half, 1, 2, 3, 2);
    }

    // ---- promise 17

    private static long choose(int of, int many) {
        if (of < many) return 0;
        long ways = 1;
        for (int i = 1; i <= many; i++) ways = ways * (of - many + i) / i;
        return ways;
    }

    /** By inclusion and exclusion: so many purses of 0 to 300 have this sum. */
    private static long waysOf(int players, int sum) {
        long ways = 0;
        for (int full = 0; full <= players && sum - 301 * full >= 0; full++) {
            long some = choose(players, full) * choose(sum - 301 * full + players - 1, players - 1);
            ways += full % 2 == 0 ? some : -some;
        }
        return ways;
    }

    private static void waysOfNewGames() {
        for (int players = 2; players <= 6; players++) {
            for (int start : new int[] {1, 2, 50, 100, 149, 150, 151, 299, 300}) {
                int n = players;
                Run game = Run.of(x -> x.set(START, start), x -> x.setUp(n));
                E.answers("17: " + n + " purses of " + start, game, x -> x.ways(), waysOf(n, n * start));
            }
        }
    }

    private static void waysAtTheEnds() {
        E.answers("17: empty purses: one way", purses(0, 0, 0), x -> x.ways(), 1);
        E.answers("17: full purses: one way", purses(300, 300, 300), x -> x.ways(), 1);
        E.answers("17: 1 in two purses", purses(0, 1), x -> x.ways(), 2);
        E.answers("17: 1 is missing in two purses", purses(300, 299), x -> x.ways(), 2);
        E.answers("17: 300 in two purses", purses(300, 0), x -> x.ways(), 301);
        E.answers("17: 301 in two purses", purses(300, 1), x -> x.ways(), 300);
        E.answers("17: 299 in two purses", purses(299, 0), x -> x.ways(), 300);
    }

    private static void waysByQuestions() {
        Run asked = purses(5, 5).and(x -> x.ask(0, 3), x -> x.ask(0, 8));
        E.answers("17: from the least to the greatest value known", asked, x -> x.ways(), 5);
        E.answers("17: both of one", asked.and(x -> x.ask(0, 5), x -> x.ask(0, 6)), x -> x.ways(), 1);
        E.answers("17: also by what is known of the other", asked.and(x -> x.ask(1, 4)), x -> x.ways(), 4);
        E.answers("17: and its greatest value", asked.and(x -> x.ask(1, 4), x -> x.ask(1, 7)), x -> x.ways(), 3);
        E.answers("17: a refused question leaves them", asked.and(x -> x.ask(0, 0), x -> x.ask(2, 5)), x -> x.ways(), 5);
        Run paid = purses(5, 5).and(x -> x.lot(0, 1), x -> x.lot(0, 1), x -> x.set(STEP, 1), x -> x.begin(FALLING, 5), x -> x.bid(0, 5), x -> x.pass(0));
        E.answers("17: by the sum as it is now", paid, x -> x.ways(), 6);
    }

    // ---- promise 18

    private static void canPayRanges() {
        Run.CallWith byPlayer = (x, player) -> x.canPay(player, 200);
        E.range("18: 2 players", purses(100, 100), byPlayer, Edges.ends(0, 1), NO_SUCH, 1, 1);
        E.range("18: 6 players", purses(200, 0, 0, 0, 0, 0), byPlayer, Edges.ends(0, 5), NO_SUCH, 1, 1);
        E.range("18: amount 0 to 300", purses(300, 0), (x, amount) -> x.canPay(1, amount), Edges.ends(0, 300), BAD_VALUE, 301, 1);
        E.refuses("18: no player and no amount", NEW, x -> x.canPay(3, 301), NO_SUCH);
        E.refuses("18: no player -1 and no amount", NEW, x -> x.canPay(-1, -1), NO_SUCH);
    }

    private static void canPayAtItsEnds() {
        E.answers("18: a purse is at least 0 in all ways", purses(7, 3), x -> x.canPay(0, 0), 11);
        E.answers("18: at least 1", purses(7, 3), x -> x.canPay(0, 1), 10);
        E.answers("18: all that there is", purses(7, 3), x -> x.canPay(0, 10), 1);
        E.answers("18: 1 more", purses(7, 3), x -> x.canPay(0, 11), 0);
        E.answers("18: a full purse", purses(300, 300), x -> x.canPay(0, 300), 1);
        E.answers("18: an empty purse", purses(0, 0), x -> x.canPay(0, 1), 0);
        E.answers("18: as many as there are", Run.of(x -> x.setUp(6)), x -> x.canPay(5, 0), waysOf(6, 600));
        E.answers("18: 300 of six purses", Run.of(x -> x.setUp(6)), x -> x.canPay(5, 300), waysOf(5, 300));
    }

    private static void canPayByQuestions() {
        Run asked = purses(5, 5).and(x -> x.ask(0, 3), x -> x.ask(0, 8));
        E.answers("18: the least value", asked, x -> x.canPay(0, 3), 5);
        E.answers("18: 1 more", asked, x -> x.canPay(0, 4), 4);
        E.answers("18: 1 less", asked, x -> x.canPay(0, 2), 5);
        E.answers("18: the greatest value", asked, x -> x.canPay(0, 7), 1);
        E.answers("18: above the greatest value", asked, x -> x.canPay(0, 8), 0);
        E.answers("18: the other one has the rest", asked, x -> x.canPay(1, 7), 1);
        E.answers("18: and not more", asked, x -> x.canPay(1, 8), 0);
        E.answers("18: the rest at least", asked, x -> x.canPay(1, 3), 5);
    }

    private static void questionsChangeNothing() {
        Run run = begun(OPEN, 9).and(x -> x.bid(0, 9));
        for (int what = 0; what <= 4; what++) {
            int at = what;
            int[] due = {9, 300, 9, 300, 106};
            E.keeps("16: known() changes nothing, " + at, run, x -> x.known(0, at), due[at]);
        }
        // 291 is what is left of the sum when the 9 of seat 0 are set apart.
        E.keeps("17: ways() changes nothing", run, x -> x.ways(), choose(291 + 2, 2));
        E.keeps("18: canPay() changes nothing", run, x -> x.canPay(1, 0), choose(291 + 2, 2));
        E.answers("16: no NONE, also in an auction", run, x -> x.known(1, 2), 0);
        E.refuses("16: no player, in an auction", run, x -> x.known(3, 2), NO_SUCH);
        E.answers("8: it goes on", run, x -> x.bid(1, 14), NONE);
    }
}
