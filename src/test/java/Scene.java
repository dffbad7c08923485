import java.util.ArrayList;
import java.util.List;

/** A run of accepted calls on a new object, played anew as often as a test needs it. */
final class Scene {
    private final int names;
    private final int terms;
    private final int steps;
    private final List<Call> calls;
    private List<List<Integer>> untouched;

    Scene(int names, int terms, int steps, List<Call> calls) {
        this.names = names;
        this.terms = terms;
        this.steps = steps;
        this.calls = calls;
    }

    Scene then(Call... more) {
        List<Call> longer = new ArrayList<>(calls);
        longer.addAll(List.of(more));
        return new Scene(names, terms, steps, longer);
    }

    Scene times(int times, Call call) {
        List<Call> longer = new ArrayList<>(calls);
        for (int i = 0; i < times; i++) {
            longer.add(call);
        }
        return new Scene(names, terms, steps, longer);
    }

    HornProtocol play() {
        HornProtocol x = new HornProtocol(names, terms, steps);
        for (Call call : calls) {
            int got = call.on(x);
            if (got < 0) {
                Due.holds(this + "each call is accepted, but " + call + " answers " + got, false);
            }
        }
        return x;
    }

    /** The call answers this. */
    void answers(Call call, int due) {
        int got = call.on(play());
        if (got != due) {
            Due.is(this + call.toString(), got, due);
        }
    }

    /** The call answers this, and no call after it shows that it was ever made. */
    void keeps(Call call, int due) {
        if (untouched == null) {
            untouched = List.of(Look.all(play()), Later.filled(play()), Later.builtOn(play()),
                Later.saturated(play()));
        }
        HornProtocol[] x = {play(), play(), play(), play()};
        for (HornProtocol each : x) {
            int got = call.on(each);
            int again = call.on(each);
            if (got != due || again != due) {
                Due.is(this + call.toString(), got, due);
                Due.is(this + call.toString() + " again", again, due);
            }
        }
        List<List<Integer>> touched = List.of(Look.all(x[0]), Later.filled(x[1]),
            Later.builtOn(x[2]), Later.saturated(x[3]));
        if (!touched.equals(untouched)) {
            Due.holds(this + call.toString() + " changes nothing", false);
        }
    }

    @Override
    public String toString() {
        return "new(" + names + ", " + terms + ", " + steps + ") " + calls + ": ";
    }
}
