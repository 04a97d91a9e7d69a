/** Promises 1 to 6: a new object, setUp, set, fill, embolden, lot. */
public final class GameTest {
    private static final int NO_SUCH = -1, BAD_VALUE = -2, TOO_MANY = -4, NOT_POSSIBLE = -5, NONE = -6;
    private static final Due T = new Due("GameTest");

    public static void main(String[] args) {
        newObject();
        setUp();
        setUpKeeps();
        set();
        setWhen();
        fill();
        fillTooLate();
        embolden();
        lot();
        lotTooLate();
        T.end();
    }

    private static void newObject() {
        PurseAuction x = new PurseAuction();
        T.due("1: players", x.count(0), 3);
        T.due("1: lots", x.count(1), 0);
        T.due("1: next lot", x.count(2), NONE);
        T.due("1: starter", x.count(3), 0);
        T.due("1: auction", x.count(4), 0);
        T.due("1: sum", x.count(10), 300);
        T.due("1: paid", x.count(11), 0);
        T.due("1: pad", x.count(12), 0);
        int[] first = {100, 5, 12, 4, 15, 5};
        for (int setting = 0; setting < 6; setting++) T.due("1: setting " + setting, x.count(13 + setting), first[setting]);
        for (int seat = 0; seat < 3; seat++) {
            T.due("1: purse", x.player(seat, 0), 100);
            T.due("1: boldness", x.player(seat, 1), 10);
            T.due("1: paid by", x.player(seat, 2), 0);
            T.due("1: least", x.known(seat, 0), 0);
            T.due("1: greatest", x.known(seat, 1), 300);
        }
        T.due("1: seat 3", x.player(3, 0), NO_SUCH);
        T.due("1: slot 0", x.restore(0), NOT_POSSIBLE);
        T.due("1: slot 1", x.restore(1), NOT_POSSIBLE);
        T.due("1: fault", x.fault(), 0);
    }

    private static void setUp() {
        PurseAuction x = new PurseAuction();
        int[] wrong = {1, 0, -1, 7, Integer.MAX_VALUE, Integer.MIN_VALUE};
        for (int players : wrong) T.due("2: setUp(" + players + ")", x.setUp(players), BAD_VALUE);
        T.due("2: still 3", x.count(0), 3);
        T.due("2: 2 players", x.setUp(2), 3);
        T.due("2: seat 1", x.player(1, 0), 100);
        T.due("2: seat 2", x.player(2, 0), NO_SUCH);
        T.due("2: 6 players", x.setUp(6), 2);
        T.due("2: seat 5", x.player(5, 0), 100);
        T.due("2: seat 6", x.player(6, 0), NO_SUCH);
        T.due("2: sum", x.count(10), 600);
        T.due("2: 4 players", x.setUp(4), 6);
        T.due("2: 5 players", x.setUp(5), 4);
        T.due("2: again", x.setUp(5), 5);
    }

    private static void setUpKeeps() {
        PurseAuction x = new PurseAuction();
        x.set(PurseAuction.START, 70);
        x.set(PurseAuction.COIN, 7);
        x.embolden(1, 30);
        x.fill(2, 5);
        x.ask(0, 50);
        x.lot(1, 10);
        x.lot(1, 10);
        x.save(1);
        Due.write(x, "m,m");
        x.begin(PurseAuction.OPEN, 10);
        x.bid(0, 10);
        x.pass(1);
        T.due("2: sold", x.pass(2), 1);
        x.setUp(3);
        T.due("2: purse is START", x.player(0, 0), 70);
        T.due("2: purse that was filled", x.player(2, 0), 70);
        T.due("2: paid", x.player(0, 2), 0);
        T.due("2: paid by all", x.count(11), 0);
        T.due("2: boldness", x.player(1, 1), 10);
        T.due("2: lots", x.count(1), 0);
        T.due("2: next lot", x.count(2), NONE);
        T.due("2: starter", x.count(3), 0);
        T.due("2: owned", x.player(0, 6), 0);
        T.due("2: score", x.player(0, 4), 10);
        T.due("2: least", x.known(0, 0), 0);
        T.due("2: greatest", x.known(0, 1), 300);
        T.due("2: settings stay", x.count(18), 7);
        x.lot(0, 5);
        T.due("2: a new lot has no owners", x.about(0, 2), 0);
        T.due("2: and no price", x.about(0, 3), NONE);
        T.due("2: the pad stays", x.count(12), 3);
        T.due("2: slots stay", x.restore(1), 0);
        T.due("2: as it was saved", x.player(2, 0), 5);
        x.begin(PurseAuction.SEALED, 10);
        T.due("2: ends an auction", x.setUp(2), 3);
        T.due("2: no auction", x.count(4), 0);
        T.due("2: no bids", x.player(0, 8), NONE);
        T.due("2: a lot can be added", x.lot(0, 1), 0);
    }

    private static void set() {
        PurseAuction x = new PurseAuction();
        int[] least = {1, 1, 1, 0, 0, 1};
        int[] first = {100, 5, 12, 4, 15, 5};
        int[] most = {300, 20, 40, 20, 100, 20};
        for (int setting = 0; setting < 6; setting++) {
            String call = "3: setting " + setting;
            T.due(call + " too small", x.set(setting, least[setting] - 1), BAD_VALUE);
            T.due(call + " too great", x.set(setting, most[setting] + 1), BAD_VALUE);
            T.due(call + " unchanged", x.count(13 + setting), first[setting]);
            T.due(call + " least", x.set(setting, least[setting]), first[setting]);
            T.due(call + " is least", x.count(13 + setting), least[setting]);
            T.due(call + " most", x.set(setting, most[setting]), least[setting]);
            T.due(call + " is most", x.count(13 + setting), most[setting]);
        }
        T.due("3: setting -1", x.set(-1, 1), BAD_VALUE);
        T.due("3: setting 6", x.set(6, 1), BAD_VALUE);
        T.due("3: setting MAX", x.set(Integer.MAX_VALUE, 1), BAD_VALUE);
        T.due("3: setting MIN", x.set(Integer.MIN_VALUE, 1), BAD_VALUE);
    }

    private static void setWhen() {
        PurseAuction x = new PurseAuction();
        x.set(PurseAuction.START, 50);
        T.due("3: START waits", x.player(0, 0), 100);
        x.setUp(3);
        T.due("3: START counts", x.player(0, 0), 50);
        x.lot(0, 10);
        x.lot(0, 10);
        x.begin(PurseAuction.OPEN, 5);
        T.due("3: no setting", x.set(6, 1), BAD_VALUE);
        T.due("3: no value", x.set(PurseAuction.SET, 21), BAD_VALUE);
        T.due("3: in an auction", x.set(PurseAuction.SET, 20), NOT_POSSIBLE);
        T.due("3: unchanged", x.count(16), 4);
        x.bid(0, 5);
        x.pass(1);
        x.pass(2);
        T.due("3: score", x.player(0, 4), 10 + 45 / 5);
        T.due("3: behind an auction", x.set(PurseAuction.COIN, 20), 5);
        T.due("3: COIN counts at once", x.player(0, 4), 10 + 45 / 20);
    }

    private static void fill() {
        PurseAuction x = new PurseAuction();
        T.due("4: no player", x.fill(3, 0), NO_SUCH);
        T.due("4: no player -1", x.fill(-1, 301), NO_SUCH);
        T.due("4: too great", x.fill(0, 301), BAD_VALUE);
        T.due("4: too small", x.fill(0, -1), BAD_VALUE);
        T.due("4: unchanged", x.player(0, 0), 100);
        x.ask(0, 80);
        x.ask(0, 120);
        x.ask(1, 80);
        T.due("4: to 0", x.fill(0, 0), 100);
        T.due("4: sum", x.count(10), 200);
        T.due("4: to 300", x.fill(0, 300), 0);
        T.due("4: purse", x.player(0, 0), 300);
        T.due("4: sum", x.count(10), 500);
        T.due("4: least", x.known(0, 0), 0);
        T.due("4: greatest", x.known(0, 1), 300);
        T.due("4: of another purse", x.known(1, 0), 80);
    }

    private static void fillTooLate() {
        PurseAuction x = new PurseAuction();
        x.lot(0, 1);
        x.lot(0, 1);
        T.due("4: with lots", x.fill(0, 90), 100);
        x.begin(PurseAuction.OPEN, 1);
        T.due("4: in an auction", x.fill(0, 1), NOT_POSSIBLE);
        T.due("4: amount first", x.fill(0, 301), BAD_VALUE);
        T.due("4: player first", x.fill(3, 301), NO_SUCH);
        x.pass(0);
        x.pass(1);
        T.due("4: unsold", x.pass(2), 0);
        T.due("4: behind an unsold lot", x.fill(0, 1), NOT_POSSIBLE);
        T.due("4: unchanged", x.player(0, 0), 90);
    }

    private static void embolden() {
        PurseAuction x = new PurseAuction();
        T.due("5: no player", x.embolden(3, 31), NO_SUCH);
        T.due("5: no player -1", x.embolden(-1, 1), NO_SUCH);
        T.due("5: too bold", x.embolden(0, 31), BAD_VALUE);
        T.due("5: too shy", x.embolden(0, -1), BAD_VALUE);
        T.due("5: unchanged", x.player(0, 1), 10);
        T.due("5: boldest", x.embolden(0, 30), 10);
        T.due("5: shyest", x.embolden(0, 0), 30);
        T.due("5: is 0", x.player(0, 1), 0);
        T.due("5: of another", x.player(1, 1), 10);
        x.lot(0, 20);
        x.lot(0, 20);
        x.begin(PurseAuction.OPEN, 1);
        T.due("5: in an auction", x.embolden(2, 25), 10);
        T.due("5: limit", x.player(2, 7), 50);
    }

    private static void lot() {
        PurseAuction x = new PurseAuction();
        T.due("6: colour -1", x.lot(-1, 1), BAD_VALUE);
        T.due("6: colour 6", x.lot(6, 1), BAD_VALUE);
        T.due("6: worth 0", x.lot(0, 0), BAD_VALUE);
        T.due("6: worth 51", x.lot(0, 51), BAD_VALUE);
        T.due("6: none added", x.count(1), 0);
        T.due("6: least", x.lot(0, 1), 0);
        T.due("6: most", x.lot(5, 50), 1);
        for (int number = 2; number < 12; number++) T.due("6: lot " + number, x.lot(number % 6, number), number);
        T.due("6: colour of 1", x.about(1, 0), 5);
        T.due("6: worth of 1", x.about(1, 1), 50);
        T.due("6: worth of 11", x.about(11, 1), 11);
        T.due("6: full", x.lot(0, 1), TOO_MANY);
        T.due("6: value ahead of full", x.lot(6, 1), BAD_VALUE);
        T.due("6: lots", x.count(1), 12);
        x.begin(PurseAuction.OPEN, 1);
        T.due("6: full ahead of auction", x.lot(0, 1), TOO_MANY);
    }

    private static void lotTooLate() {
        PurseAuction x = new PurseAuction();
        x.lot(0, 5);
        x.lot(0, 5);
        x.begin(PurseAuction.FALLING, 3);
        T.due("6: in an auction", x.lot(0, 1), NOT_POSSIBLE);
        T.due("6: value first", x.lot(0, 51), BAD_VALUE);
        T.due("6: unsold", x.pass(0), 0);
        T.due("6: behind an unsold lot", x.lot(0, 1), NOT_POSSIBLE);
        T.due("6: last", x.last(), 1);
        T.due("6: behind the last lot", x.lot(0, 1), NOT_POSSIBLE);
        T.due("6: lots", x.count(1), 2);
    }
}
