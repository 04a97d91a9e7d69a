import java.util.List;

/** Checks of one sentence each: a right call's answer, or a wrong one's, behind which nothing may have changed. */
final class Edges {
    private final Due due;

    Edges(String test) {
        due = new Due(test);
    }

    void answers(String sentence, Run run, Run.Call call, long want) {
        due.due(sentence, call.on(run.played()), want);
    }

    /** The answer is due, and the call leaves all as it was. */
    void keeps(String sentence, Run run, Run.Call call, long want) {
        answers(sentence, run, call, want);
        same(sentence, run, run.and(call));
    }

    /** A call with an error: it is answered, and nothing has changed behind it. */
    void refuses(String sentence, Run run, Run.Call call, long error) {
        if (error > -1 || error < -5) due.due(sentence + ": no error code", error, -1);
        keeps(sentence, run, call, error);
    }

    /** Two runs behind which nothing differs. */
    void same(String sentence, Run one, Run other) {
        List<String> want = Whole.deepOf(one);
        List<String> got = Whole.deepOf(other);
        due.due(sentence + ": as much is seen", got.size(), want.size());
        for (int i = 0; i < Math.min(want.size(), got.size()); i++) {
            if (want.get(i).equals(got.get(i))) continue;
            due.due(sentence + ": " + got.get(i) + " in place of " + want.get(i), 1, 0);
            return;
        }
    }

    /** An argument from a least to a greatest value; those just outside, and far outside, are refused. */
    void range(String sentence, Run run, Run.CallWith call, int[] ends, long error, long... atEnds) {
        int[] outside = {ends[0] - 1, ends[1] + 1, Integer.MIN_VALUE, Integer.MAX_VALUE};
        for (int value : outside) refuses(sentence + ", with " + value, run, x -> call.on(x, value), error);
        for (int end = 0; end < 2; end++) {
            int value = ends[end];
            answers(sentence + ", with " + value, run, x -> call.on(x, value), atEnds[end]);
        }
    }

    static int[] ends(int least, int greatest) {
        return new int[] {least, greatest};
    }

    void end() {
        due.end();
    }
}
