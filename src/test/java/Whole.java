import java.util.ArrayList;
import java.util.List;

/** Everything that can be seen of an object by calls that change nothing: some 200 calls. */
final class Whole {
    private Whole() {
    }

    static List<String> of(PurseAuction x) {
        List<String> seen = new ArrayList<>();
        for (int what = 0; what <= 18; what++) seen.add("count(" + what + ") " + x.count(what));
        for (int seat = 0; seat < x.count(0); seat++) {
            for (int what = 0; what <= 9; what++) seen.add("player(" + seat + ", " + what + ") " + x.player(seat, what));
            for (int what = 0; what <= 4; what++) seen.add("known(" + seat + ", " + what + ") " + x.known(seat, what));
            seen.add("leastBid(" + seat + ", 1) " + x.leastBid(seat, 1));
        }
        for (int lot = 0; lot < x.count(1); lot++) {
            for (int what = 0; what <= 4; what++) seen.add("about(" + lot + ", " + what + ") " + x.about(lot, what));
        }
        for (int mode = 0; mode <= 2; mode++) seen.add("forecast(" + mode + ", 7, 0) " + x.forecast(mode, 7, 0));
        seen.add("ways() " + x.ways());
        seen.add("fault() " + x.fault());
        return seen;
    }

    /** Also what the pad and the slots hold, which only calls can tell that change the object. */
    static List<String> deepOf(Run run) {
        List<String> seen = of(run.played());
        PurseAuction pad = run.played();
        seen.add("carryOut() " + pad.carryOut());
        seen.addAll(of(pad));
        for (int slot = 0; slot <= 1; slot++) {
            PurseAuction restored = run.played();
            seen.add("restore(" + slot + ") " + restored.restore(slot));
            seen.addAll(of(restored));
        }
        return seen;
    }
}
