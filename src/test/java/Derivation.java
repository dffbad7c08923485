import java.util.ArrayList;
import java.util.HashSet;
import java.util.List;
import java.util.Set;

/** Step calls after a saturated scene, found by trying; a step that is not wanted is undone. */
final class Derivation {
    private Scene scene;
    private HornProtocol x;

    Derivation(Scene saturated) {
        scene = saturated;
        x = scene.play();
    }

    HornProtocol object() {
        return x;
    }

    /** Takes a step whose fact is this ground id, if there is one. */
    boolean derive(int id) {
        return takeOneOf(Set.of(id));
    }

    /** All ground ids that steps can reach when each is derived once. */
    Set<Integer> reachable() {
        Set<Integer> wanted = new HashSet<>();
        for (int id = 0; id < 256; id++) {
            wanted.add(id);
        }
        Set<Integer> reached = new HashSet<>();
        for (int i = 0; i < 256 && takeOneOf(wanted); i++) {
            int id = x.stepFact(x.count(HornProtocol.C_STEPS) - 1);
            wanted.remove(id);
            reached.add(id);
        }
        return reached;
    }

    private boolean takeOneOf(Set<Integer> wanted) {
        for (Call call : candidates()) {
            int j = call.on(x);
            if (j >= 0 && wanted.contains(x.stepFact(j))) {
                scene = scene.then(call);
                return true;
            }
            if (j >= 0) {
                x = scene.play();
            }
        }
        return false;
    }

    /** Every call whose references are good. */
    private List<Call> candidates() {
        List<Call> found = new ArrayList<>();
        int steps = x.count(HornProtocol.C_STEPS);
        for (int i = 0; i < x.count(HornProtocol.C_KNOW); i++) {
            found.add(new Call("step", HornProtocol.S_INIT, i, 0, 0));
        }
        for (int kind = HornProtocol.S_PAIR; kind <= HornProtocol.S_ADEC; kind++) {
            boolean one = kind >= HornProtocol.S_PK && kind <= HornProtocol.S_SND;
            for (int a = 0; a < steps; a++) {
                for (int b = 0; b < (one ? 1 : steps); b++) {
                    found.add(new Call("step", kind, a, b, 0));
                }
            }
        }
        for (int r = 0; r < x.count(HornProtocol.C_RULES); r++) {
            int firsts = x.ruleTerm(r, 0) == HornProtocol.NONE ? 1 : steps;
            int seconds = x.ruleTerm(r, 1) == HornProtocol.NONE ? 1 : steps;
            for (int b = 0; b < firsts; b++) {
                for (int c = 0; c < seconds; c++) {
                    found.add(new Call("step", HornProtocol.S_RULE, r, b, c));
                }
            }
        }
        return found;
    }
}
