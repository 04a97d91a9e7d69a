/** Promises 26 and 27: save, restore. */
public final class SavingTest {
    private static final int NO_SUCH = -1, BAD_VALUE = -2, NOT_POSSIBLE = -5, NONE = -6;
    private static final Due T = new Due("SavingTest");

    public static void main(String[] args) {
        errors();
        everything();
        anAuction();
        twoSlots();
        T.end();
    }

    private static void errors() {
        PurseAuction x = new PurseAuction();
        int[] wrong = {-1, 2, Integer.MAX_VALUE, Integer.MIN_VALUE};
        for (int slot : wrong) {
            T.due("26: slot " + slot, x.save(slot), BAD_VALUE);
            T.due("27: slot " + slot, x.restore(slot), BAD_VALUE);
        }
        T.due("27: nothing in 0", x.restore(0), NOT_POSSIBLE);
        T.due("26: save(1)", x.save(1), 0);
        T.due("27: still nothing in 0", x.restore(0), NOT_POSSIBLE);
        T.due("27: restore(1)", x.restore(1), 0);
    }

    private static void everything() {
        PurseAuction x = new PurseAuction();
        x.setUp(4);
        x.set(PurseAuction.START, 77);
        x.set(PurseAuction.COIN, 2);
        x.lot(3, 30);
        x.lot(2, 20);
        x.lot(1, 10);
        x.fill(3, 60);
        x.embolden(2, 22);
        x.ask(1, 101);
        Due.write(x, "m,f");
        x.begin(PurseAuction.FALLING, 13);
        x.bid(1, 13);
        x.pass(0);
        T.due("26: a lot is sold", x.save(0), 1);
        x.wipe();
        x.last();
        x.setUp(2);
        x.set(PurseAuction.START, 99);
        x.set(PurseAuction.COIN, 9);
        x.lot(5, 50);
        T.due("27: a lot is sold", x.restore(0), 1);
        T.due("27: players", x.count(0), 4);
        T.due("27: lots", x.count(1), 3);
        T.due("27: next lot", x.count(2), 1);
        T.due("27: starter", x.count(3), 1);
        T.due("27: the pad does not come back", x.count(12), 0);
        T.due("27: START", x.count(13), 77);
        T.due("27: COIN", x.count(18), 2);
        T.due("27: purse", x.player(3, 0), 60);
        T.due("27: boldness", x.player(2, 1), 22);
        T.due("27: paid", x.player(1, 2), 13);
        T.due("27: owned", x.player(1, 6), 1);
        T.due("27: greatest", x.known(1, 1), 100 - 13);
        T.due("27: colour", x.about(0, 0), 3);
        T.due("27: worth", x.about(1, 1), 20);
        T.due("27: price", x.about(0, 3), 13);
        T.due("27: no player", x.player(4, 0), NO_SUCH);
        Due.write(x, "m,m");
        T.due("27: again", x.restore(0), 1);
        T.due("27: the pad stays", x.count(12), 3);
    }

    private static void anAuction() {
        PurseAuction x = new PurseAuction();
        x.lot(3, 30);
        x.lot(2, 20);
        x.begin(PurseAuction.OPEN, 4);
        x.bid(0, 4);
        x.pass(1);
        T.due("26: in an auction", x.save(1), 0);
        x.pass(2);
        T.due("27: sold meanwhile", x.about(0, 4), 1);
        T.due("27: back", x.restore(1), 0);
        T.due("27: goes on", x.count(4), 1);
        T.due("27: mode", x.count(5), PurseAuction.OPEN);
        T.due("27: highest bid", x.count(6), 4);
        T.due("27: its bidder", x.count(7), 0);
        T.due("27: turn", x.count(8), 2);
        T.due("27: bids", x.count(9), 1);
        T.due("27: bid", x.player(0, 8), 4);
        T.due("27: no bid", x.player(1, 8), NONE);
        T.due("27: out", x.player(1, 9), 1);
        T.due("27: purse", x.player(0, 0), 100);
        T.due("27: known", x.known(0, 0), 4);
        T.due("27: played on", x.bid(2, 9), NONE);
        x.restore(1);
        T.due("27: the slot keeps it", x.count(6), 4);
        T.due("27: the reserve of it", x.pass(2), 1);
        x.restore(1);
        x.save(0);
        x.setUp(2);
        T.due("27: a copy of it", x.restore(0), 0);
        T.due("27: turn", x.count(8), 2);
    }

    private static void twoSlots() {
        PurseAuction x = new PurseAuction();
        x.fill(0, 11);
        x.save(0);
        x.fill(0, 22);
        x.save(1);
        x.fill(0, 33);
        T.due("27: slot 0", x.restore(0), 0);
        T.due("27: of slot 0", x.player(0, 0), 11);
        x.restore(1);
        T.due("27: of slot 1", x.player(0, 0), 22);
        x.fill(0, 44);
        x.save(0);
        x.fill(0, 55);
        x.restore(0);
        T.due("26: overwritten", x.player(0, 0), 44);
        x.restore(1);
        T.due("26: slot 1 is not", x.player(0, 0), 22);
    }
}
