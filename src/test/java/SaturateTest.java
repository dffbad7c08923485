import java.util.HashSet;
import java.util.List;
import java.util.Set;

/** Promise 5. */
public final class SaturateTest {
    public static void main(String[] args) {
        nothingKnown();
        entriesOnly();
        keepsWhatWasBuilt();
        Due.end();
    }

    private static void ready(HornProtocol x, int known) {
        Due.is("C_PHASE", x.count(HornProtocol.C_PHASE), HornProtocol.READY);
        Due.is("C_KNOWN", x.count(HornProtocol.C_KNOWN), known);
        Due.is("C_STEPS", x.count(HornProtocol.C_STEPS), 0);
        Due.still(x, "saturate again", () -> x.saturate(), -2);
        Due.still(x, "make in READY", () -> x.make(HornProtocol.VAR, 0, 0), -2);
        Due.still(x, "know in READY", () -> x.know(0), -2);
        Due.still(x, "rule in READY", () -> x.rule(-1, -1, 0), -2);
        Due.is("distinct ids with a rank", distinctKnown(x), known);
    }

    private static int distinctKnown(HornProtocol x) {
        Set<Integer> ids = new HashSet<>();
        for (int h = 0; h < 16; h++) {
            for (int vx = 0; vx < 4; vx++) {
                for (int vy = 0; vy < 4; vy++) {
                    if (x.rank(h, vx, vy) >= 0) {
                        ids.add(x.groundId(h, vx, vy));
                    }
                }
            }
        }
        return ids.size();
    }

    private static void nothingKnown() {
        HornProtocol x = new HornProtocol(4, 16, 8);
        x.make(HornProtocol.PK, 0, 0);
        Due.is("saturate", x.saturate(), 0);
        ready(x, 0);
    }

    private static void entriesOnly() {
        HornProtocol x = new HornProtocol(4, 16, 8);
        x.know(2);
        x.know(2);
        x.know(0);
        Due.is("equal entries count once", x.saturate(), 2);
        ready(x, 2);
    }

    private static void keepsWhatWasBuilt() {
        HornProtocol x = new HornProtocol(3, 16, 8);
        int v = x.make(HornProtocol.VAR, 0, 0);
        int box = x.make(HornProtocol.SENC, v, 0);
        x.know(0);
        x.know(1);
        x.rule(box, -1, v);
        List<Integer> terms = built(x);
        // a, b, SENC(a,a), SENC(b,a); the third name stays secret.
        Due.is("saturate", x.saturate(), 4);
        Due.holds("arena, entries and rules stay", terms.equals(built(x)));
        ready(x, 4);
        x.step(HornProtocol.S_INIT, 1, 0, 0);
        Due.is("C_KNOWN after a step", x.count(HornProtocol.C_KNOWN), 4);
        Due.still(x, "saturate after a step", () -> x.saturate(), -2);
    }

    private static List<Integer> built(HornProtocol x) {
        return List.of(x.count(HornProtocol.C_TERMS), x.count(HornProtocol.C_KNOW),
            x.count(HornProtocol.C_RULES), x.count(HornProtocol.C_UNIVERSE), x.kindOf(3),
            x.kindOf(4), x.child(4, 0), x.child(4, 1), x.entry(0), x.entry(1),
            x.ruleTerm(0, 0), x.ruleTerm(0, 1), x.ruleTerm(0, 2));
    }
}
