import java.util.ArrayList;
import java.util.List;
import java.util.Set;
import java.util.TreeSet;

/** Every call that only looks, over all arguments that can mean something and those beside them. */
final class Look {
    private static final List<Call> CALLS = calls();

    private Look() {
    }

    private static List<Call> calls() {
        List<Call> calls = new ArrayList<>();
        for (int what = -1; what <= 7; what++) {
            calls.add(new Call("count", what));
        }
        for (int h = -1; h <= 16; h++) {
            calls.add(new Call("kindOf", h));
            for (int which = -1; which <= 2; which++) {
                calls.add(new Call("child", h, which));
            }
            for (int vx = -1; vx <= 4; vx++) {
                for (int vy = -1; vy <= 4; vy++) {
                    calls.add(new Call("groundId", h, vx, vy));
                    calls.add(new Call("rank", h, vx, vy));
                }
            }
        }
        for (int i = -1; i <= 8; i++) {
            calls.add(new Call("entry", i));
            for (int which = -1; which <= 3; which++) {
                calls.add(new Call("ruleTerm", i, which));
            }
        }
        for (int j = -1; j <= 32; j++) {
            calls.add(new Call("stepFact", j));
        }
        return calls;
    }

    static List<Integer> all(HornProtocol x) {
        List<Integer> answers = new ArrayList<>(CALLS.size());
        for (Call call : CALLS) {
            answers.add(call.on(x));
        }
        return answers;
    }

    /** The calls whose answers differ, as texts. */
    static Set<String> changed(List<Integer> before, List<Integer> after) {
        Set<String> changed = new TreeSet<>();
        for (int i = 0; i < CALLS.size(); i++) {
            if (!before.get(i).equals(after.get(i))) {
                changed.add(CALLS.get(i).toString());
            }
        }
        return changed;
    }
}
