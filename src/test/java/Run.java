import java.util.ArrayList;
import java.util.List;

/** A run of calls. Each question about it is put to a new object, so that none of them gets more than 512 calls. */
final class Run {
    interface Call {
        long on(PurseAuction x);
    }

    /** A call of which one argument is left open. */
    interface CallWith {
        long on(PurseAuction x, int value);
    }

    private final List<Call> calls = new ArrayList<>();

    static Run of(Call... calls) {
        return new Run().and(calls);
    }

    /** A longer run; this one stays as it is. */
    Run and(Call... more) {
        Run longer = new Run();
        longer.calls.addAll(calls);
        longer.calls.addAll(List.of(more));
        return longer;
    }

    Run times(int times, Call call) {
        Run longer = this;
        for (int time = 0; time < times; time++) longer = longer.and(call);
        return longer;
    }

    PurseAuction played() {
        PurseAuction x = new PurseAuction();
        for (Call call : calls) call.on(x);
        return x;
    }
}
