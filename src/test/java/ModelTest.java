import java.util.Random;

/** Long runs of calls, always the same ones, on the program and on the model; both have to answer the same. */
public final class ModelTest {
    /** One turn makes at most so many calls: a text of 60 characters, and its fault. */
    private static final int RUNS = 1500, CALLS = 512, CALLS_OF_A_TURN = 9;
    private static final Due T = new Due("ModelTest");
    private static final String SIGNS = "sbpmf:,0123456789";

    private final Random random;
    private final int run;
    private final PurseAuction x = new PurseAuction();
    private final Model m = new Model();
    private final StringBuilder history = new StringBuilder();
    private int calls = 0;

    private ModelTest(int run) {
        this.run = run;
        random = new Random(run);
    }

    public static void main(String[] args) {
        for (int run = 0; run < RUNS && T.wrong() == 0; run++) new ModelTest(run).play();
        T.end();
    }

    private int below(int bound) {
        return random.nextInt(bound);
    }

    /** Mostly from the range, sometimes at its edges or outside. */
    private int about(int least, int most) {
        switch (below(24)) {
            case 0: return least - 1;
            case 1: return most + 1;
            case 2: return least;
            case 3: return most;
            case 4: return below(8) == 0 ? random.nextInt() : least;
            default: return least + below(most - least + 1);
        }
    }

    private int seat() {
        return below(20) == 0 ? below(9) - 2 : below(m.count(0));
    }

    private int reserve() {
        return below(4) == 0 ? about(1, 300) : 1 + below(60);
    }

    private int amount() {
        int price = m.count(6);
        int seat = below(m.count(0));
        switch (below(7)) {
            case 0: return about(0, 300);
            case 1: return m.player(seat, 0) + below(2);
            case 2: return below(12);
            case 3: return m.player(seat, 7);
            default: return price < 0 ? 1 + below(40) : m.count(5) == 2 ? price : price + m.count(14) - 1 + below(4);
        }
    }

    private int actor() {
        return m.count(8) >= 0 && below(8) != 0 ? m.count(8) : seat();
    }

    private void due(String call, long got, long want) {
        calls++;
        history.append(call).append(' ');
        if (got != want) System.out.println("run " + run + ": " + history);
        T.due("run " + run + ": " + call, got, want);
    }

    private void play() {
        for (int turn = 0; calls <= CALLS - CALLS_OF_A_TURN && T.wrong() == 0; turn++) {
            int kind = below(100);
            if (turn < 40) {
                prepare();
            } else if (kind < 2) {
                prepare();
            } else if (kind < 35) {
                act();
            } else if (kind < 80) {
                look();
            } else if (kind < 88) {
                know();
            } else if (kind < 90) {
                foresee();
            } else if (kind < 98) {
                text();
            } else {
                keep();
            }
        }
    }

    private void prepare() {
        switch (below(12)) {
            case 0: {
                if (below(4) != 0) return;
                int n = about(2, 6);
                due("setUp(" + n + ")", x.setUp(n), m.setUp(n));
                return;
            }
            case 1: {
                int[][] ranges = {{1, 300}, {1, 20}, {1, 40}, {0, 20}, {0, 100}, {1, 20}};
                int s = about(0, 5);
                int v = s < 0 || s > 5 ? 1 : about(ranges[s][0], ranges[s][1]);
                due("set(" + s + ", " + v + ")", x.set(s, v), m.set(s, v));
                return;
            }
            case 2: case 3: {
                int p = seat();
                int v = about(0, below(2) == 0 ? 300 : 30);
                due("fill(" + p + ", " + v + ")", x.fill(p, v), m.fill(p, v));
                return;
            }
            case 4: case 5: {
                int p = seat();
                int v = about(0, 30);
                due("embolden(" + p + ", " + v + ")", x.embolden(p, v), m.embolden(p, v));
                return;
            }
            default: {
                int c = about(0, 5);
                int w = about(1, 50);
                due("lot(" + c + ", " + w + ")", x.lot(c, w), m.lot(c, w));
            }
        }
    }

    private void act() {
        int p = actor();
        int a = amount();
        switch (below(10)) {
            case 0: case 1: {
                int how = about(0, 2);
                int reserve = reserve();
                due("begin(" + how + ", " + reserve + ")", x.begin(how, reserve), m.begin(how, reserve));
                return;
            }
            case 2: case 3: case 4: case 5:
                due("bid(" + p + ", " + a + ")", x.bid(p, a), m.bid(p, a));
                return;
            case 6:
                due("pass(" + p + ")", x.pass(p), m.pass(p));
                return;
            case 7:
                due("move()", x.move(), m.move());
                return;
            case 8:
                due("last()", x.last(), m.last());
                return;
            default: {
                int purse = m.player(below(m.count(0)), 0);
                int v = below(2) == 0 ? about(1, 300) : purse + below(21) - 10;
                due("ask(" + p + ", " + v + ")", x.ask(p, v), m.ask(p, v));
            }
        }
    }

    private void look() {
        switch (below(3)) {
            case 0: {
                int p = seat();
                int what = about(0, 9);
                due("player(" + p + ", " + what + ")", x.player(p, what), m.player(p, what));
                return;
            }
            case 1: {
                int l = about(0, Math.max(0, m.count(1) - 1));
                int what = about(0, 4);
                due("about(" + l + ", " + what + ")", x.about(l, what), m.about(l, what));
                return;
            }
            default: {
                int what = about(0, 18);
                due("count(" + what + ")", x.count(what), m.count(what));
            }
        }
    }

    private void know() {
        int p = seat();
        int what = below(10) == 0 ? about(2, 4) : about(0, 1);
        if (below(3) == 0) {
            int v = about(0, 300);
            if (below(4) == 0) due("canPay(" + p + ", " + v + ")", x.canPay(p, v), m.canPay(p, v));
            if (below(8) == 0) due("ways()", x.ways(), m.ways());
        } else {
            due("known(" + p + ", " + what + ")", x.known(p, what), m.known(p, what));
        }
    }

    private void foresee() {
        int p = seat();
        int r = reserve();
        int how = about(0, 2);
        switch (below(4)) {
            case 0:
                due("bestMode(" + p + ", " + r + ")", x.bestMode(p, r), m.bestMode(p, r));
                return;
            case 1:
                due("leastBid(" + p + ", " + r + ")", x.leastBid(p, r), m.leastBid(p, r));
                return;
            default:
                due("forecast(" + how + ", " + r + ", " + p + ")", x.forecast(how, r, p), m.forecast(how, r, p));
        }
    }

    private String someText() {
        StringBuilder text = new StringBuilder();
        int acts = 1 + below(4);
        for (int i = 0; i < acts; i++) {
            if (i > 0) text.append(',');
            switch (below(6)) {
                case 0: text.append('s').append(below(4) == 0 ? about(0, 2) : below(3)).append(':').append(reserve()); break;
                case 1: case 2: text.append('b').append(actor()).append(':').append(amount()); break;
                case 3: text.append('p').append(actor()); break;
                case 4: text.append('m'); break;
                default: text.append(below(3) == 0 ? 'f' : 'm');
            }
        }
        if (below(3) == 0 && text.length() > 0) {
            text.setCharAt(below(text.length()), SIGNS.charAt(below(SIGNS.length())));
        }
        if (below(6) == 0) text.setLength(below(text.length() + 1));
        return text.toString();
    }

    private void text() {
        switch (below(8)) {
            case 0: case 1: {
                String text = someText();
                for (int from = 0; from < text.length(); from += 8) {
                    long code = Due.code(text.substring(from, Math.min(text.length(), from + 8)));
                    due("put(" + code + ")", x.put(code), m.put(code));
                }
                due("fault()", x.fault(), m.fault());
                return;
            }
            case 2: {
                long code = random.nextLong() >>> 8 * below(9) - below(2);
                due("put(" + code + ")", x.put(code), m.put(code));
                return;
            }
            case 3:
                due("wipe()", x.wipe(), m.wipe());
                return;
            case 4: case 5:
                due("fault()", x.fault(), m.fault());
                return;
            default:
                due("carryOut()", x.carryOut(), m.carryOut());
                if (below(2) == 0) due("wipe()", x.wipe(), m.wipe());
        }
    }

    private void keep() {
        int slot = below(5) == 0 ? about(0, 1) : below(2);
        if (below(2) == 0) {
            due("save(" + slot + ")", x.save(slot), m.save(slot));
        } else {
            due("restore(" + slot + ")", x.restore(slot), m.restore(slot));
        }
    }
}
