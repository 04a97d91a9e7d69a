/** "Texts" and promises 22 to 25, a check of its own for each sentence that names an edge. */
public final class TextEdgesTest {
    private static final int BAD_VALUE = -2, BAD_TEXT = -3, TOO_MANY = -4, NONE = -6;
    private static final int OPEN = 0, SEALED = 1, FALLING = 2;
    private static final String ACTS_WHOLE = "mf", ACTS_OPEN = "sbp", DIGITS = "0123456789";
    private static final Edges E = new Edges("TextEdgesTest");
    private static final Run NEW = Run.of();

    public static void main(String[] args) {
        putLengths();
        putCodes();
        putNoCharacter();
        putBitsAboveTheEnd();
        putOrderOfCharacters();
        putUpToSixty();
        putErrorsInOrder();
        wipe();
        faultAtEachPlace();
        faultIsTheFirst();
        faultOfSixtyCharacters();
        faultChangesNothing();
        playersOfTexts();
        carryOutBadTexts();
        carryOutEachAct();
        carryOutUntilOneFails();
        carryOutNoneIsNoFailure();
        carryOutThirtyActs();
        carryOutEmptiesThePad();
        carryOutAsCalls();
        E.end();
    }

    private static Run written(Run run, String text) {
        Run written = run;
        for (int from = 0; from < text.length(); from += 8) {
            long code = Due.code(text.substring(from, Math.min(text.length(), from + 8)));
            written = written.and(x -> x.put(code));
        }
        return written;
    }

    private static Run written(String text) {
        return written(NEW, text);
    }

    private static String times(int times, String part) {
        return part.repeat(times);
    }

    private static Run lots(int lots) {
        return NEW.times(lots, x -> x.lot(0, 20));
    }

    // ---- promise 22

    private static void putLengths() {
        for (int length = 1; length <= 8; length++) {
            int n = length;
            E.answers("22: " + n + " characters", NEW, x -> x.put(Due.code(times(n, "m"))), n);
            E.answers("22: " + n + " characters behind 3 others", written("abc"), x -> x.put(Due.code(times(n, "m"))), 3 + n);
        }
    }

    private static void putCodes() {
        int[] wrong = {1, 31, 32, 127, 128, 160, 254, 255};
        int[] right = {33, 34, 48, 65, 125, 126};
        for (int place = 0; place < 8; place++) {
            long others = Due.code(times(8, "m")) & ~(255L << 8 * place);
            for (int length = place + 1; length <= 8; length++) {
                int n = length;
                long shorter = length == 8 ? others : others & (1L << 8 * length) - 1;
                for (int code : wrong) {
                    long number = shorter | (long) code << 8 * place;
                    E.refuses("22: code " + code + " at place " + place + " of " + n, NEW, x -> x.put(number), BAD_VALUE);
                }
                for (int code : right) {
                    long number = shorter | (long) code << 8 * place;
                    E.answers("22: code " + code + " at place " + place + " of " + n, NEW, x -> x.put(number), n);
                }
            }
        }
    }

    private static void putNoCharacter() {
        E.refuses("22: there is no character", NEW, x -> x.put(0), BAD_VALUE);
        for (int bit = 8; bit < 64; bit++) {
            long number = 1L << bit;
            E.refuses("22: no character, but bit " + bit, NEW, x -> x.put(number), BAD_VALUE);
        }
        E.refuses("22: a character above 8 bits that are 0", NEW, x -> x.put('m' << 8), BAD_VALUE);
        E.refuses("22: the least number", NEW, x -> x.put(Long.MIN_VALUE), BAD_VALUE);
        E.refuses("22: the greatest number", NEW, x -> x.put(Long.MAX_VALUE), BAD_VALUE);
        E.refuses("22: -1", NEW, x -> x.put(-1), BAD_VALUE);
    }

    private static void putBitsAboveTheEnd() {
        for (int length = 1; length <= 6; length++) {
            long characters = Due.code(times(length, "m"));
            for (int bit = 8 * length + 8; bit < 64; bit++) {
                long number = characters | 1L << bit;
                E.refuses("22: bit " + bit + " above " + length + " characters and 8 bits that are 0", NEW, x -> x.put(number), BAD_VALUE);
            }
            long more = characters | (long) 'm' << 8 * length + 8;
            E.refuses("22: a character above " + length + " others and 8 bits that are 0", NEW, x -> x.put(more), BAD_VALUE);
        }
    }

    private static void putOrderOfCharacters() {
        E.answers("22: the lowest 8 bits are the last character", NEW.and(x -> x.put('p' << 8 | '0')), x -> x.fault(), NONE);
        E.answers("22: not the first one", NEW.and(x -> x.put('0' << 8 | 'p')), x -> x.fault(), 0);
        Run eight = NEW.and(x -> x.put(Due.code("b0:300,m")));
        E.answers("22: eight in their order", eight, x -> x.fault(), NONE);
        E.answers("22: behind those of before", eight.and(x -> x.put(Due.code(",s2:1"))), x -> x.fault(), NONE);
        E.answers("22: not ahead of them", eight.and(x -> x.put(Due.code("s2:1,"))), x -> x.fault(), 8);
    }

    private static void putUpToSixty() {
        for (int length = 1; length <= 8; length++) {
            int n = length;
            Run fits = written(times(60 - n, "m"));
            E.answers("22: 60 with the last " + n, fits, x -> x.put(Due.code(times(n, "m"))), 60);
            Run over = written(times(61 - n, "m"));
            E.refuses("22: 61 with the last " + n, over, x -> x.put(Due.code(times(n, "m"))), TOO_MANY);
            Run full = written(times(60, "m"));
            E.refuses("22: 60, and " + n + " more", full, x -> x.put(Due.code(times(n, "m"))), TOO_MANY);
        }
        E.answers("22: a wiped pad takes them", written(times(60, "m")).and(x -> x.wipe()), x -> x.put('m'), 1);
    }

    private static void putErrorsInOrder() {
        Run full = written(times(60, "m"));
        E.refuses("22: no character, and the pad is full", full, x -> x.put(0), BAD_VALUE);
        E.refuses("22: a wrong code, and the pad is full", full, x -> x.put(32), BAD_VALUE);
        E.refuses("22: a bit above the end, and the pad is full", full, x -> x.put(1L << 40 | 'm'), BAD_VALUE);
        Run almost = written(times(53, "m"));
        E.refuses("22: the last of 8 wrong codes, and they would be 61", almost, x -> x.put(Due.code("mmmmmmm") << 8 | 127), BAD_VALUE);
    }

    // ---- promise 23

    private static void wipe() {
        E.keeps("23: an empty pad", NEW, x -> x.wipe(), 0);
        for (int length : new int[] {1, 8, 59, 60}) {
            Run run = written(times(length, "m"));
            E.answers("23: the length that it had: " + length, run, x -> x.wipe(), length);
            E.same("23: the pad is empty then", NEW, run.and(x -> x.wipe()));
            E.answers("23: wiped again", run.and(x -> x.wipe()), x -> x.wipe(), 0);
        }
        Run playing = lots(3).and(x -> x.begin(OPEN, 9), x -> x.bid(0, 9), x -> x.save(0));
        E.same("23: nothing else changes", playing, written(playing, "p1,p2").and(x -> x.wipe()));
        E.same("23: nothing is left of what was wiped", written("s0:3"), written("s0:3,b0:100,m").and(x -> x.wipe(), x -> x.put(Due.code("s0:3"))));
    }

    // ---- promise 24

    /** Behind a beginning: after which characters the text is whole, after which it is not yet, and no other can stand. */
    private static void place(String beginning, String whole, String open) {
        for (char sign = 33; sign <= 126; sign++) {
            String text = beginning + sign;
            int due = whole.indexOf(sign) >= 0 ? NONE : open.indexOf(sign) >= 0 ? text.length() : beginning.length();
            E.answers("24: fault of " + text, written(text), x -> x.fault(), due);
        }
    }

    private static void faultAtEachPlace() {
        E.answers("24: an empty text ends too early", NEW, x -> x.fault(), 0);
        String[] ahead = {"", "m,", "f,", "p5,", "s2:300,", "b5:0,", "s1:1,b0:300,p0,m,f,"};
        for (String acts : ahead) {
            place(acts, ACTS_WHOLE, ACTS_OPEN);
            place(acts + "m", "", ",");
            place(acts + "f", "", ",");
            place(acts + "p", "012345", "");
            place(acts + "p0", "", ",");
            place(acts + "p5", "", ",");
            place(acts + "s", "", "012");
            place(acts + "s0", "", ":");
            place(acts + "s2", "", ":");
            place(acts + "s2:", "123456789", "");
            amounts(acts + "s2:");
            place(acts + "b", "", "012345");
            place(acts + "b0", "", ":");
            place(acts + "b5", "", ":");
            place(acts + "b5:", DIGITS, "");
            place(acts + "b5:0", "", ",");
            amounts(acts + "b5:");
        }
    }

    /** Numbers up to 300: a third digit may follow up to 30, and behind 30 only a 0. */
    private static void amounts(String beginning) {
        for (int first = 1; first <= 9; first++) place(beginning + first, DIGITS, ",");
        for (int two = 10; two <= 29; two++) place(beginning + two, DIGITS, ",");
        place(beginning + 30, "0", ",");
        for (int two : new int[] {31, 39, 40, 99}) place(beginning + two, "", ",");
        for (int three : new int[] {100, 199, 299, 300}) place(beginning + three, "", ",");
    }

    private static void faultIsTheFirst() {
        E.answers("24: of two faults the first one", written("s3:0"), x -> x.fault(), 1);
        E.answers("24: a fault ahead of the end", written("mx,s"), x -> x.fault(), 1);
        E.answers("24: the digit by which it would be too great", written("b0:3010"), x -> x.fault(), 5);
        E.answers("24: the 0 that leads", written("s0:010"), x -> x.fault(), 3);
        E.answers("24: the digit behind a leading 0", written("b0:010"), x -> x.fault(), 4);
        E.answers("24: the index counts from the first act on", written("m,m,m,p6"), x -> x.fault(), 7);
        for (String early : new String[] {"s", "s1", "s1:", "b", "b1", "b1:", "p", "m,", "m,f,", "m,s", "m,s1:"}) {
            E.answers("24: ends too early: " + early, written(early), x -> x.fault(), early.length());
        }
    }

    private static void faultOfSixtyCharacters() {
        String fifty = times(25, "m,");
        E.answers("24: a whole text of 60", written(fifty + "m,s2:300,f"), x -> x.fault(), NONE);
        E.answers("24: a whole text of 60, a number at the end", written(fifty + "m,f,s2:300"), x -> x.fault(), NONE);
        E.answers("24: 60 characters end too early", written(fifty + "m,f,s2:30,"), x -> x.fault(), 60);
        E.answers("24: 60 characters end within a number's act", written(fifty + "m,f,m,m,b5"), x -> x.fault(), 60);
        E.answers("24: the last of 60 cannot stand", written(fifty + "m,f,s2:301"), x -> x.fault(), 59);
        E.answers("24: the first of 60 cannot stand", written(times(60, "x")), x -> x.fault(), 0);
        E.answers("24: 30 acts", written("p0" + times(29, ",m")), x -> x.fault(), NONE);
    }

    private static void faultChangesNothing() {
        for (String text : new String[] {"", "m", "m,", "s0:5,b0:5", "x"}) {
            Run run = written(lots(2), text);
            long due = run.played().fault();
            E.keeps("24: fault() changes nothing: " + text, run, x -> x.fault(), due);
            E.answers("24: asked twice: " + text, run.and(x -> x.fault()), x -> x.fault(), due);
        }
    }

    private static void playersOfTexts() {
        Run two = Run.of(x -> x.setUp(2));
        E.answers("24: whether there is such a player does not matter, bid", written(two, "b5:300"), x -> x.fault(), NONE);
        E.answers("24: whether there is such a player does not matter, pass", written(two, "p2"), x -> x.fault(), NONE);
        E.answers("25: but then the act fails, bid", written(two, "b5:300"), x -> x.carryOut(), 0);
        E.answers("25: but then the act fails, pass", written(two, "p2"), x -> x.carryOut(), 0);
        E.answers("24: whether the amount is in the purse neither", written(two, "b0:300"), x -> x.fault(), NONE);
    }

    // ---- promise 25

    private static void carryOutBadTexts() {
        E.refuses("25: an empty pad has a fault", NEW, x -> x.carryOut(), BAD_TEXT);
        for (String text : new String[] {"x", "s0:5,", "s0:5,b0:301", "s0:5,m,q", "s0:0"}) {
            Run run = written(lots(2), text);
            E.refuses("25: a fault: " + text, run, x -> x.carryOut(), BAD_TEXT);
            E.answers("25: then the pad stays: " + text, run.and(x -> x.carryOut()), x -> x.wipe(), text.length());
            E.answers("25: and no act is carried out: " + text, run.and(x -> x.carryOut()), x -> x.count(4), 0);
        }
        E.answers("25: the rest can be put then", written(lots(2), "s0:5,").and(x -> x.carryOut(), x -> x.put('m')), x -> x.carryOut(), 2);
    }

    private static void acts(String text, Run run, int due) {
        E.answers("25: " + text, written(run, text), x -> x.carryOut(), due);
    }

    private static void carryOutEachAct() {
        Run open = lots(2).and(x -> x.begin(OPEN, 9));
        acts("s0:1", lots(2), 1);
        acts("s2:300", lots(2), 1);
        acts("b0:9", open, 1);
        acts("p0", open, 1);
        acts("m", open, 1);
        acts("f", lots(1), 1);
        for (int mode = OPEN; mode <= FALLING; mode++) {
            int how = mode;
            for (int reserve : new int[] {1, 10, 300}) {
                String text = "s" + how + ":" + reserve;
                E.same("25: as begin(): " + text, lots(2).and(x -> x.begin(how, reserve)), written(lots(2), text).and(x -> x.carryOut()));
            }
        }
        for (int amount : new int[] {9, 10, 99, 100}) {
            E.same("25: as bid(): " + amount, open.and(x -> x.bid(0, amount)), written(open, "b0:" + amount).and(x -> x.carryOut()));
        }
        Run sealed = Run.of(x -> x.setUp(6), x -> x.lot(0, 9), x -> x.lot(0, 9), x -> x.begin(SEALED, 9));
        for (int player = 0; player < 6; player++) {
            int at = player;
            E.same("25: as bid() of seat " + at, sealed.and(x -> x.bid(at, 0)), written(sealed, "b" + at + ":0").and(x -> x.carryOut()));
        }
        E.same("25: as pass()", open.and(x -> x.pass(0)), written(open, "p0").and(x -> x.carryOut()));
        E.same("25: as move()", open.and(x -> x.move()), written(open, "m").and(x -> x.carryOut()));
        E.same("25: as last()", lots(1).and(x -> x.last()), written(lots(1), "f").and(x -> x.carryOut()));
    }

    private static void carryOutUntilOneFails() {
        acts("f,s0:1", lots(2), 0);
        acts("s0:1,s0:1,m", lots(2), 1);
        acts("s0:9,b0:8,b0:9", lots(2), 1);
        acts("s0:9,b0:9,b0:14,p1", lots(2), 2);
        acts("s0:9,p3,p0", lots(2), 1);
        acts("s0:9,p0,p1,p2,f,m", lots(2), 5);
        acts("s0:9,p0,p1,p2,f,f", lots(2), 5);
        acts("m", lots(2), 0);
        Run failed = written(lots(2), "s0:9,b0:8,b0:9,p1").and(x -> x.carryOut());
        E.same("25: nothing behind the act that failed", lots(2).and(x -> x.begin(OPEN, 9)), failed);
        E.same("25: the first one fails: nothing at all", lots(2), written(lots(2), "f,s0:1").and(x -> x.carryOut()));
    }

    private static void carryOutNoneIsNoFailure() {
        acts("s0:9,b0:9,b1:14,p2,p0", lots(2), 5);
        acts("s1:9,b2:0,b0:100,b1:0", lots(2), 4);
        acts("s2:9,p2,p2", lots(2), 3);
        acts("s2:9,b0:9,b1:9,p2,f", lots(2), 5);
        E.answers("25: a set of winners is none either", written(lots(2), "s2:9,b0:9,p2,f").and(x -> x.carryOut()), x -> x.about(1, 2), 1);
    }

    private static void carryOutThirtyActs() {
        Run falling = lots(2).and(x -> x.begin(FALLING, 300));
        acts("m" + times(29, ",m"), falling, 30);
        acts("p0" + times(29, ",m"), falling, 30);
        E.answers("25: all 30 are carried out", written(falling, "p0" + times(29, ",m")).and(x -> x.carryOut()), x -> x.count(6), 150);
        acts("m" + times(28, ",m") + ",f", falling, 29);
    }

    private static void carryOutEmptiesThePad() {
        String[] texts = {"s0:9", "m", "s0:9,f,m", "p0" + times(29, ",m")};
        for (String text : texts) {
            Run carried = written(lots(2), text).and(x -> x.carryOut());
            E.answers("25: empties the pad: " + text, carried, x -> x.count(12), 0);
            E.refuses("25: so there is no text any more", carried, x -> x.carryOut(), BAD_TEXT);
            E.answers("25: and 8 more can be put", carried, x -> x.put(Due.code("mmmmmmmm")), 8);
        }
    }

    private static void carryOutAsCalls() {
        Run calls = lots(4).and(x -> x.begin(OPEN, 5), x -> x.bid(0, 5), x -> x.pass(1), x -> x.bid(2, 10), x -> x.pass(0), x -> x.begin(SEALED, 300),
            x -> x.bid(0, 0), x -> x.bid(2, 90), x -> x.move(), x -> x.begin(FALLING, 9), x -> x.pass(2), x -> x.bid(1, 4), x -> x.pass(1), x -> x.last());
        Run texts = written(written(lots(4), "s0:5,b0:5,p1,b2:10,p0,s1:300,b0:0,b2:90,m").and(x -> x.carryOut()), "s2:9,p2,b1:4,p1,f")
            .and(x -> x.carryOut());
        E.same("25: the acts one after the other", calls, texts);
    }
}
