import java.util.ArrayList;
import java.util.Comparator;
import java.util.HashSet;
import java.util.List;
import java.util.Set;

/** The two guarantees of promise 8. */
public final class StepGuaranteesTest extends Edges {
    private static final int P = 32;

    /** Saturated scenes with an entry or a rule that needs nothing, so that steps can be wasted. */
    private static final Scene[] SCENES = {
        scene(2, 8, P, know(0), saturate()),
        scene(2, 8, P, rule(NONE, NONE, 1), saturate()),
        scene(2, 8, P, make(PK, 0, 0), make(PK, 2, 0), make(PK, 3, 0), make(PK, 4, 0),
            make(PK, 5, 0), make(PK, 6, 0), know(0), know(1), saturate()),
        scene(4, 16, P, make(PK, 1, 0), make(VAR, 0, 0), make(AENC, 5, 4), make(AENC, 2, 4),
            make(PAIR, 5, 0), make(SENC, 3, 1), know(0), know(4), know(7), rule(6, NONE, 8),
            rule(9, NONE, 9), saturate()),
        scene(3, 16, P, make(VAR, 0, 0), make(VAR, 1, 0), make(PAIR, 3, 4), make(SENC, 2, 0),
            make(PK, 1, 0), make(AENC, 6, 7), make(PAIR, 8, 1), know(9), rule(4, NONE, 0),
            rule(NONE, 5, 3), saturate()),
        scene(4, 16, P, make(SENC, 0, 1), make(SENC, 1, 2), make(SENC, 2, 3), make(AENC, 3, 0),
            make(PAIR, 4, 5), know(8), know(6), know(7), saturate()),
        scene(3, 12, P, make(VAR, 0, 0), make(VAR, 1, 0), make(SENC, 3, 4), make(PK, 4, 0),
            make(PAIR, 3, 2), know(0), know(1), rule(6, 5, 7), saturate()),
    };

    public static void main(String[] args) {
        Due.sentence("Every accepted step's fact lies in K: for every valid step j, writing"
            + " stepFact(j) = h*16 + vx + 4*vy with vx and vy in 0..3 (h = id / 16, vx = id mod 4,"
            + " vy = (id mod 16) / 4), rank(h, vx, vy) >= 0.", StepGuaranteesTest::factsLieInK);
        Due.sentence("So no accepted step ever has as fact a ground term with rank UNDERIVABLE, and"
            + " a term reported secret can never be derived by step.",
            StepGuaranteesTest::secretsStay);
        Due.sentence("If rank(h, vx, vy) = r >= 0 and P - count(C_STEPS) is at least the number m"
            + " of distinct ground terms of U with rank in 0..r (secret terms not counted), then"
            + " there is a sequence of at most m step calls, each answering a non-negative index,"
            + " after which stepFact(count(C_STEPS) - 1) == groundId(h, vx, vy).",
            StepGuaranteesTest::knownCanBeDerived);
        Due.sentence("P - count(C_STEPS) is at least the number m",
            StepGuaranteesTest::leastCapacity);
        Due.end();
    }

    private static int rankOf(HornProtocol x, int id) {
        return x.rank(id / 16, id % 4, id % 16 / 4);
    }

    private static Set<Integer> known(HornProtocol x) {
        Set<Integer> ids = new HashSet<>();
        for (int h = 0; h < x.count(C_TERMS); h++) {
            for (int code = 0; code < 16; code++) {
                if (x.rank(h, code % 4, code / 4) >= 0) {
                    ids.add(x.groundId(h, code % 4, code / 4));
                }
            }
        }
        return ids;
    }

    /** Each step that is accepted, after steps that gave all of K they could. */
    private static void factsLieInK() {
        for (Scene scene : SCENES) {
            Derivation derivation = new Derivation(scene);
            derivation.reachable();
            HornProtocol x = derivation.object();
            for (int kind = S_INIT; kind <= S_RULE; kind++) {
                for (int code = 0; code < 512; code++) {
                    x.step(kind, code % 8, code / 8 % 8, code / 64);
                }
            }
            for (int j = 0; j < x.count(C_STEPS); j++) {
                Due.holds(scene + "fact " + j + " lies in K", rankOf(x, x.stepFact(j)) >= 0);
            }
        }
    }

    private static void secretsStay() {
        for (Scene scene : SCENES) {
            HornProtocol x = scene.play();
            Set<Integer> known = known(x);
            Due.is(scene + "known ids", known.size(), x.count(C_KNOWN));
            Due.holds(scene + "some room is left for a secret", known.size() < P);
            Set<Integer> reached = new Derivation(scene).reachable();
            Due.holds(scene + "steps reach " + reached + ", known are " + known,
                reached.equals(known));
        }
    }

    /** Wastes steps until just m are left, then derives the term in m steps. */
    private static void derive(Scene scene, int p, int target) {
        HornProtocol x = scene.play();
        int r = rankOf(x, target);
        List<Integer> wanted = new ArrayList<>();
        for (int id : known(x)) {
            if (rankOf(x, id) <= r && id != target) {
                wanted.add(id);
            }
        }
        wanted.sort(Comparator.comparing(id -> rankOf(x, id)));
        wanted.add(target);
        Call waste = x.count(C_KNOW) > 0 ? step(S_INIT, 0, 0, 0) : step(S_RULE, 0, 0, 0);
        Due.holds(scene + "m is no more than P", wanted.size() <= p);
        Derivation derivation = new Derivation(scene.times(p - wanted.size(), waste));
        for (int id : wanted) {
            Due.holds(scene + "a step gives " + id + " before " + target, derivation.derive(id));
        }
        HornProtocol y = derivation.object();
        Due.is(scene + "C_STEPS", y.count(C_STEPS), p);
        Due.is(scene + "the last fact", y.stepFact(p - 1), target);
        Due.is(scene + "its id", y.groundId(target / 16, target % 4, target % 16 / 4), target);
    }

    private static void knownCanBeDerived() {
        for (Scene scene : SCENES) {
            for (int id : known(scene.play())) {
                derive(scene, P, id);
            }
        }
    }

    private static void leastCapacity() {
        Scene chain = scene(2, 8, 8, make(PK, 0, 0), make(PK, 2, 0), make(PK, 3, 0),
            make(PK, 4, 0), make(PK, 5, 0), make(PK, 6, 0), know(0), know(1), know(0), saturate());
        Due.is("all eight ground terms are known", chain.play().count(C_KNOWN), 8);
        for (int id : known(chain.play())) {
            derive(chain, 8, id);
        }
    }
}
