/** Promises 22 to 25: put, wipe, fault, carryOut. */
public final class TextTest {
    private static final int BAD_VALUE = -2, BAD_TEXT = -3, TOO_MANY = -4, NOT_POSSIBLE = -5, NONE = -6;
    private static final Due T = new Due("TextTest");

    public static void main(String[] args) {
        putCharacters();
        putTooMany();
        wipe();
        faultsOfActs();
        faultsOfNumbers();
        faultOfLongText();
        carryOutAll();
        carryOutUntilFailure();
        carryOutErrors();
        T.end();
    }

    private static void putCharacters() {
        PurseAuction x = new PurseAuction();
        T.due("22: no character", x.put(0), BAD_VALUE);
        T.due("22: nothing in the lowest bits", x.put((long) 'm' << 8), BAD_VALUE);
        T.due("22: a gap", x.put((long) 'm' << 16 | 'm'), BAD_VALUE);
        T.due("22: a bit far above", x.put(1L << 62 | 'm'), BAD_VALUE);
        T.due("22: the highest bit", x.put(1L << 63 | 'm'), BAD_VALUE);
        T.due("22: code 32", x.put(32), BAD_VALUE);
        T.due("22: code 127", x.put(127), BAD_VALUE);
        T.due("22: code 255", x.put(255), BAD_VALUE);
        T.due("22: code 32 above", x.put(32 << 8 | 'm'), BAD_VALUE);
        T.due("22: code 127 as the first of 8", x.put(127L << 56 | Due.code("mmmmmmm")), BAD_VALUE);
        T.due("22: code 128 as the first of 8", x.put(128L << 56 | Due.code("mmmmmmm")), BAD_VALUE);
        T.due("22: all bits", x.put(-1L), BAD_VALUE);
        T.due("22: nothing is put", x.count(12), 0);
        T.due("22: code 33", x.put(33), 1);
        T.due("22: code 126", x.put(126), 2);
        T.due("22: 8 characters", x.put(Due.code("~~~~~~~~")), 10);
        T.due("22: 3 characters", x.put(Due.code("abc")), 13);
        x.wipe();
        x.put(Due.code("s0"));
        x.put(Due.code(":1,m"));
        T.due("22: in their order", x.fault(), NONE);
    }

    private static void putTooMany() {
        PurseAuction x = new PurseAuction();
        for (int put = 1; put <= 7; put++) T.due("22: 8 more", x.put(Due.code("mmmmmmmm")), 8 * put);
        T.due("22: 64", x.put(Due.code("mmmmmmmm")), TOO_MANY);
        T.due("22: 61", x.put(Due.code("mmmmm")), TOO_MANY);
        T.due("22: bad ahead of too many", x.put(Due.code("mmmmmm m")), BAD_VALUE);
        T.due("22: still 56", x.count(12), 56);
        T.due("22: 60", x.put(Due.code("mmmm")), 60);
        T.due("22: 61", x.put('m'), TOO_MANY);
    }

    private static void wipe() {
        PurseAuction x = new PurseAuction();
        T.due("23: an empty pad", x.wipe(), 0);
        Due.write(x, "s0:1,mmm");
        T.due("23: 8", x.wipe(), 8);
        T.due("23: empty", x.count(12), 0);
        T.due("23: fault", x.fault(), 0);
        Due.write(x, "f");
        T.due("23: nothing is left of it", x.fault(), NONE);
        T.due("23: 1", x.wipe(), 1);
    }

    private static void fault(String text, int due) {
        PurseAuction x = new PurseAuction();
        Due.write(x, text);
        T.due("24: fault of " + text, x.fault(), due);
        T.due("24: again of " + text, x.fault(), due);
        T.due("24: the pad stays", x.count(12), text.length());
    }

    private static void faultsOfActs() {
        String[] good = {"m", "f", "p0", "p5", "s0:1", "s2:300", "b0:0", "b5:300", "m,f", "f,m,p3,s1:20,b2:7,m"};
        for (String text : good) fault(text, NONE);
        fault("", 0);
        fault("x", 0);
        fault("M", 0);
        fault("0", 0);
        fault(",m", 0);
        fault("m,", 2);
        fault("mm", 1);
        fault("fm", 1);
        fault("m:", 1);
        fault("m,,m", 2);
        fault("m,x", 2);
        fault("p", 1);
        fault("pp", 1);
        fault("p1p", 2);
        fault("p1:1", 2);
        fault("s", 1);
        fault("s0", 2);
        fault("s0,1", 2);
        fault("s0:", 3);
        fault("s0:,", 3);
        fault("s1:5:", 4);
        fault("b", 1);
        fault("b:", 1);
        fault("b0", 2);
        fault("b0:", 3);
        fault("b0:7m", 4);
        fault("b0:7,", 5);
    }

    private static void faultsOfNumbers() {
        fault("s3", 1);
        fault("s3:1", 1);
        fault("s00:1", 2);
        fault("s10:5", 2);
        fault("s-1:5", 1);
        fault("s0:0", 3);
        fault("s0:01", 3);
        fault("s0:1", NONE);
        fault("s0:10", NONE);
        fault("s0:30", NONE);
        fault("s0:31", NONE);
        fault("s0:99", NONE);
        fault("s0:299", NONE);
        fault("s0:300", NONE);
        fault("s0:301", 5);
        fault("s0:310", 5);
        fault("s0:999", 5);
        fault("s0:1000", 6);
        fault("s0:3x", 4);
        fault("b6", 1);
        fault("b9:1", 1);
        fault("b05:1", 2);
        fault("b50:1", 2);
        fault("b0:00", 4);
        fault("b0:05", 4);
        fault("b0:301", 5);
        fault("b0:3000", 6);
        fault("b0:0,m", NONE);
        fault("p6", 1);
        fault("p10", 2);
        fault("p00", 2);
    }

    private static void faultOfLongText() {
        StringBuilder text = new StringBuilder("p0");
        for (int act = 0; act < 29; act++) text.append(",m");
        fault(text.toString(), NONE);
        text.setCharAt(59, 's');
        fault(text.toString(), 60);
        text.setCharAt(59, ',');
        fault(text.toString(), 59);
        StringBuilder acts = new StringBuilder("m");
        for (int act = 0; act < 29; act++) acts.append(",f");
        fault(acts.toString(), NONE);
        fault(acts.append(',').toString(), 60);
    }

    private static PurseAuction withLots(int lots) {
        PurseAuction x = new PurseAuction();
        for (int lot = 0; lot < lots; lot++) x.lot(lot, 10);
        return x;
    }

    private static void carryOut(PurseAuction x, String text, int due) {
        Due.write(x, text);
        T.due("25: " + text, x.carryOut(), due);
    }

    private static void carryOutAll() {
        PurseAuction x = withLots(4);
        carryOut(x, "s0:5,b0:5,p1,b2:10,p0", 5);
        T.due("25: the pad is empty", x.count(12), 0);
        T.due("25: sold", x.about(0, 2), 4);
        T.due("25: for 10", x.about(0, 3), 10);
        carryOut(x, "s1:300", 1);
        T.due("25: begun", x.count(5), PurseAuction.SEALED);
        carryOut(x, "m,m,m", 3);
        T.due("25: unsold", x.about(1, 4), 2);
        carryOut(x, "s2:14,m,m,f", 4);
        T.due("25: sold for 9", x.about(2, 3), 9);
        T.due("25: the last one is given", x.about(3, 2), 4);
    }

    private static void carryOutUntilFailure() {
        PurseAuction x = withLots(3);
        carryOut(x, "m,s0:5", 0);
        T.due("25: nothing behind a failure", x.count(4), 0);
        T.due("25: the pad is empty", x.count(12), 0);
        carryOut(x, "s0:5,b0:5,b0:9,p1", 2);
        T.due("25: up to the failure", x.count(6), 5);
        T.due("25: the pass did not come", x.player(1, 9), 0);
        carryOut(x, "b1:300", 0);
        carryOut(x, "p1,b5:20,p2", 1);
        carryOut(x, "p2,p2", 1);
        carryOut(x, "f", 0);
        carryOut(x, "s2:300,s0:1", 1);
        T.due("25: the first one goes on", x.count(5), PurseAuction.FALLING);
    }

    private static void carryOutErrors() {
        PurseAuction x = withLots(2);
        T.due("25: an empty pad", x.carryOut(), BAD_TEXT);
        carryOut(x, "s0:5,b0:", BAD_TEXT);
        T.due("25: nothing is carried out", x.count(4), 0);
        T.due("25: the pad stays", x.count(12), 8);
        Due.write(x, "7");
        T.due("25: as soon as it is whole", x.carryOut(), 2);
        T.due("25: bid", x.count(6), 7);
        T.due("25: set() is none of the acts", x.set(0, 1), NOT_POSSIBLE);
        T.due("25: no text any more", x.carryOut(), BAD_TEXT);
    }
}
