/** Promises 19 to 21: forecast, bestMode, leastBid. */
public final class ForecastTest {
    private static final int NO_SUCH = -1, BAD_VALUE = -2, NOT_POSSIBLE = -5, NONE = -6;
    private static final int OPEN = PurseAuction.OPEN, SEALED = PurseAuction.SEALED, FALLING = PurseAuction.FALLING;
    private static final Due T = new Due("ForecastTest");

    public static void main(String[] args) {
        forecastErrors();
        forecastWithoutLots();
        forecastByHand();
        forecastPlaysOn();
        forecastChangesNothing();
        longestForecast();
        bestMode();
        bestInTheMiddle();
        leastBidErrors();
        leastBid();
        T.end();
    }

    private static PurseAuction twoAlike() {
        PurseAuction x = new PurseAuction();
        x.setUp(2);
        x.lot(0, 20);
        x.lot(1, 20);
        return x;
    }

    private static void forecastErrors() {
        PurseAuction x = twoAlike();
        T.due("19: no player", x.forecast(3, 0, 2), NO_SUCH);
        T.due("19: no player -1", x.forecast(OPEN, 1, -1), NO_SUCH);
        T.due("19: mode -1", x.forecast(-1, 1, 0), BAD_VALUE);
        T.due("19: mode 3", x.forecast(3, 1, 0), BAD_VALUE);
        T.due("19: reserve 0", x.forecast(OPEN, 0, 0), BAD_VALUE);
        T.due("19: reserve 301", x.forecast(OPEN, 301, 0), BAD_VALUE);
        x.begin(OPEN, 5);
        T.due("19: mode 3 in an auction", x.forecast(3, 1, 0), BAD_VALUE);
        T.due("19: reserve 301 in an auction", x.forecast(OPEN, 301, 0), BAD_VALUE);
    }

    private static void forecastWithoutLots() {
        PurseAuction x = new PurseAuction();
        x.fill(1, 34);
        T.due("19: no lots", x.forecast(OPEN, 1, 1), 6);
        x.lot(0, 10);
        T.due("19: only the last one", x.forecast(OPEN, 1, 1), 16);
        x.last();
        T.due("19: all are sold", x.forecast(SEALED, 300, 1), 16);
        T.due("19: to seat 1", x.forecast(SEALED, 300, 0), 20);
    }

    private static void forecastByHand() {
        PurseAuction x = twoAlike();
        // Bids 1, 6, 11, 16; seat 1 has 84 then, and so gets the last lot, too.
        T.due("19: OPEN", x.forecast(OPEN, 1, 0), 20);
        T.due("19: OPEN", x.forecast(OPEN, 1, 1), 40 + 84 / 5);
        // Both hand in 20 and share; of purses of 90 the one of the starter 1 is the first.
        T.due("19: SEALED", x.forecast(SEALED, 1, 0), 10 + 90 / 5);
        T.due("19: SEALED", x.forecast(SEALED, 1, 1), 30 + 90 / 5);
        // Both claim at 20, seat 0 is the first.
        T.due("19: FALLING", x.forecast(FALLING, 23, 0), 40 + 82 / 5);
        T.due("19: FALLING", x.forecast(FALLING, 23, 1), 20);
        T.due("19: unsold", x.forecast(SEALED, 21, 1), 20 + 20);
    }

    private static void forecastPlaysOn() {
        PurseAuction x = new PurseAuction();
        x.setUp(2);
        x.lot(0, 20);
        x.lot(1, 20);
        x.lot(2, 20);
        x.begin(FALLING, 60);
        x.bid(1, 60);
        // Seat 1 has 40 then; of lot 1, from 300 on, nothing is sold; the smallest purse gets lot 2.
        T.due("19: a claim stands", x.forecast(OPEN, 300, 1), 40 + 40 / 5);
        T.due("19: the others are sold in the mode", x.forecast(SEALED, 20, 0), 10 + 90 / 5);
        x.pass(0);
        x.begin(OPEN, 12);
        x.pass(1);
        T.due("19: the bid of seat 0 ends it", x.forecast(FALLING, 300, 0), 20 + 88 / 5);
        x.bid(0, 15);
        T.due("19: nothing is left to bid", x.forecast(FALLING, 300, 0), 20 + 85 / 5);
        PurseAuction y = twoAlike();
        y.begin(SEALED, 18);
        y.bid(1, 0);
        T.due("19: seat 0 hands in the rest", y.forecast(OPEN, 300, 0), 40 + 80 / 5);
        y.embolden(0, 8);
        T.due("19: with its own reserve", y.forecast(OPEN, 1, 0), 20);
    }

    private static void forecastChangesNothing() {
        PurseAuction x = twoAlike();
        x.begin(OPEN, 3);
        x.bid(0, 3);
        x.save(0);
        long before = state(x);
        x.forecast(OPEN, 1, 0);
        x.bestMode(1, 5);
        T.due("19: the game is as before", state(x), before);
        x.restore(0);
        T.due("19: so is the slot", state(x), before);
    }

    private static long state(PurseAuction x) {
        long state = 0;
        for (int what = 0; what < 19; what++) state = state * 31 + x.count(what);
        for (int seat = 0; seat < 2; seat++) {
            for (int what = 0; what < 10; what++) state = state * 31 + x.player(seat, what);
            for (int what = 0; what < 5; what++) state = state * 31 + x.known(seat, what);
        }
        for (int lot = 0; lot < 2; lot++) {
            for (int what = 0; what < 5; what++) state = state * 31 + x.about(lot, what);
        }
        return state;
    }

    private static void longestForecast() {
        PurseAuction x = new PurseAuction();
        x.set(PurseAuction.STEP, 1);
        x.setUp(6);
        for (int lot = 0; lot < 12; lot++) x.lot(lot % 6, 50);
        for (int seat = 0; seat < 6; seat++) x.embolden(seat, 0);
        T.due("19: 11 lots fall from 300 to nothing", x.forecast(FALLING, 300, 5), 50 + 20);
        T.due("19: the others have none", x.forecast(FALLING, 300, 0), 20);
    }

    private static void bestMode() {
        PurseAuction x = twoAlike();
        T.due("20: no player", x.bestMode(2, 0), NO_SUCH);
        T.due("20: no player -1", x.bestMode(-1, 1), NO_SUCH);
        T.due("20: reserve 0", x.bestMode(0, 0), BAD_VALUE);
        T.due("20: reserve 301", x.bestMode(0, 301), BAD_VALUE);
        // Seat 0 gets both lots for 20, OPEN or FALLING; in a SEALED auction both share.
        T.due("20: of equals the lowest one", x.bestMode(0, 20), OPEN);
        T.due("20: shares", x.bestMode(1, 20), SEALED);
        T.due("20: only a price that falls comes down", x.bestMode(0, 300), FALLING);
        x.begin(FALLING, 20);
        T.due("20: the auction has its own mode", x.bestMode(1, 300), OPEN);
    }

    private static void bestInTheMiddle() {
        PurseAuction x = new PurseAuction();
        x.setUp(2);
        x.lot(0, 10);
        x.lot(0, 10);
        x.lot(0, 30);
        x.embolden(0, 5);
        x.embolden(1, 5);
        // OPEN: seat 0 gets all. SEALED: both share for 5 and 7. FALLING: each gets one for 1. Seat 0 gets the last.
        T.due("20: OPEN", x.forecast(OPEN, 1, 1), 100 / 5);
        T.due("20: SEALED", x.forecast(SEALED, 1, 1), 5 + 5 + 4 + 94 / 5);
        T.due("20: FALLING", x.forecast(FALLING, 1, 1), 10 + 99 / 5);
        T.due("20: not the last one that is better than the first", x.bestMode(1, 1), SEALED);
    }

    private static void leastBidErrors() {
        PurseAuction x = new PurseAuction();
        T.due("21: no player", x.leastBid(3, 0), NO_SUCH);
        T.due("21: no player -1", x.leastBid(-1, 1), NO_SUCH);
        T.due("21: reserve 0", x.leastBid(0, 0), BAD_VALUE);
        T.due("21: reserve 301", x.leastBid(0, 301), BAD_VALUE);
        T.due("21: no lot", x.leastBid(0, 1), NOT_POSSIBLE);
        x.lot(0, 10);
        T.due("21: the last lot", x.leastBid(0, 1), NOT_POSSIBLE);
        x.lot(0, 10);
        x.begin(OPEN, 1);
        T.due("21: an auction", x.leastBid(0, 1), NOT_POSSIBLE);
        T.due("21: reserve first", x.leastBid(0, 301), BAD_VALUE);
        T.due("21: player first", x.leastBid(3, 301), NO_SUCH);
    }

    private static void leastBid() {
        PurseAuction x = new PurseAuction();
        x.lot(0, 20);
        x.lot(0, 20);
        x.embolden(1, 15);
        T.due("21: as the boldest other", x.leastBid(0, 1), 30);
        T.due("21: its own limit is no matter", x.leastBid(1, 1), 20);
        x.embolden(0, 20);
        T.due("21: as seat 0", x.leastBid(2, 1), 40);
        x.embolden(0, 10);
        T.due("21: at the reserve all others hand in 0", x.leastBid(0, 31), 31);
        T.due("21: the reserve is handed in", x.leastBid(0, 30), 30);
        T.due("21: up to the purse", x.leastBid(0, 100), 100);
        T.due("21: none", x.leastBid(0, 101), NONE);
        x.fill(2, 29);
        T.due("21: none above the purse", x.leastBid(2, 1), NONE);
        x.fill(2, 30);
        T.due("21: just the purse", x.leastBid(2, 1), 30);
        x.embolden(0, 0);
        x.embolden(1, 0);
        T.due("21: nobody bids", x.leastBid(2, 1), 1);
    }
}
