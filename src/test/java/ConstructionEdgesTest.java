import java.util.List;

/** Promise 1, sentence by sentence. */
public final class ConstructionEdgesTest extends Edges {
    private static final int[] VALUES = {MIN, MIN + 1, -65535, -1, 0, 1, 2, 3, 4, 5, 7, 8, 9, 15,
        16, 17, 31, 32, 33, 65544, MAX - 1, MAX};

    public static void main(String[] args) {
        Due.sentence("`HornProtocol(names, terms, steps)` accepts every int value.",
            ConstructionEdgesTest::everyInt);
        Due.sentence("N is names clamped to 2..4", ConstructionEdgesTest::names);
        Due.sentence("T is terms clamped to 8..16", ConstructionEdgesTest::terms);
        Due.sentence("P is steps clamped to 8..32", ConstructionEdgesTest::steps);
        Due.sentence("a value below the least becomes the least", ConstructionEdgesTest::below);
        Due.sentence("a value above the greatest becomes the greatest",
            ConstructionEdgesTest::above);
        Due.sentence("(this includes Integer.MIN_VALUE and Integer.MAX_VALUE)",
            ConstructionEdgesTest::extremes);
        Due.sentence("N, T and P never change afterwards.", ConstructionEdgesTest::neverChange);
        Due.sentence("The new object holds NAME 0..NAME N-1 as handles 0..N-1 (handle i has kind"
            + " NAME, left i, right -1)", ConstructionEdgesTest::holdsNames);
        Due.sentence("and nothing else: count(C_TERMS) = N, count(C_KNOW) = 0,"
            + " count(C_RULES) = 0, count(C_STEPS) = 0, count(C_PHASE) = BUILD.",
            ConstructionEdgesTest::holdsNothingElse);
        Due.sentence("The universe then consists of the N names, so count(C_UNIVERSE) = N.",
            ConstructionEdgesTest::universe);
        Due.end();
    }

    /** N, as the names that groundId takes show it. */
    private static int n(HornProtocol x) {
        int n = 0;
        while (n < 9 && x.groundId(0, n, 0) >= 0 && x.groundId(0, 0, n) >= 0) {
            n++;
        }
        return n;
    }

    /** T, as the arena shows it when it is filled. */
    private static int t(HornProtocol x) {
        int last = x.count(C_TERMS) - 1;
        for (int i = 0; i < 99 && last >= 0; i++) {
            last = x.make(PK, last, 0);
        }
        Due.is("make in the full arena", last, ERR_FULL);
        return x.count(C_TERMS);
    }

    /** P, as the steps show it when they are filled. */
    private static int p(HornProtocol x) {
        x.know(0);
        x.saturate();
        int last = 0;
        for (int i = 0; i < 99 && last >= 0; i++) {
            last = x.step(S_INIT, 0, 0, 0);
        }
        Due.is("step when all are held", last, ERR_FULL);
        return x.count(C_STEPS);
    }

    private static void is(int names, int terms, int steps, int n, int t, int p) {
        String who = "new(" + names + ", " + terms + ", " + steps + ") has ";
        HornProtocol x = new HornProtocol(names, terms, steps);
        Due.is(who + "N", n(x), n);
        Due.is(who + "T", t(x), t);
        Due.is(who + "P", p(x), p);
    }

    private static int clamped(int value, int least, int most) {
        return Math.max(least, Math.min(most, value));
    }

    private static void everyInt() {
        for (int names : VALUES) {
            for (int terms : VALUES) {
                for (int steps : VALUES) {
                    is(names, terms, steps, clamped(names, 2, 4), clamped(terms, 8, 16),
                        clamped(steps, 8, 32));
                }
            }
        }
    }

    private static void names() {
        is(1, 8, 8, 2, 8, 8);
        is(2, 8, 8, 2, 8, 8);
        is(3, 8, 8, 3, 8, 8);
        is(4, 8, 8, 4, 8, 8);
        is(5, 8, 8, 4, 8, 8);
    }

    private static void terms() {
        is(2, 7, 8, 2, 8, 8);
        for (int terms = 8; terms <= 16; terms++) {
            is(2, terms, 8, 2, terms, 8);
        }
        is(2, 17, 8, 2, 16, 8);
    }

    private static void steps() {
        is(2, 8, 7, 2, 8, 8);
        for (int steps = 8; steps <= 32; steps++) {
            is(2, 8, steps, 2, 8, steps);
        }
        is(2, 8, 33, 2, 8, 32);
    }

    private static void below() {
        is(1, 7, 7, 2, 8, 8);
        is(0, 0, 0, 2, 8, 8);
        is(-1, -1, -1, 2, 8, 8);
        is(-4, -16, -32, 2, 8, 8);
        // Cut to a short or a byte these would be 3, 9 and 9.
        is(-65533, -65527, -65527, 2, 8, 8);
        is(-253, -247, -247, 2, 8, 8);
    }

    private static void above() {
        is(5, 17, 33, 4, 16, 32);
        is(99, 99, 99, 4, 16, 32);
        // Cut to a short or a byte these would be 3, 9 and 9.
        is(65539, 65545, 65545, 4, 16, 32);
        is(259, 265, 265, 4, 16, 32);
    }

    private static void extremes() {
        is(MIN, MIN, MIN, 2, 8, 8);
        is(MAX, MAX, MAX, 4, 16, 32);
        is(MIN, MAX, MIN, 2, 16, 8);
        is(MAX, MIN, MAX, 4, 8, 32);
    }

    private static void neverChange() {
        HornProtocol x = new HornProtocol(3, 9, 10);
        for (int v : VALUES) {
            Later.saturated(new HornProtocol(v, v, v));
            x.make(v, v, v);
            x.know(v);
            x.rule(v, v, v);
            x.step(v, v, v, v);
            Due.is("N in BUILD", n(x), 3);
        }
        Due.is("T", t(x), 9);
        Due.is("T in the full arena", t(x), 9);
        Due.is("N in the full arena", n(x), 3);
        Due.is("P", p(x), 10);
        Due.is("P when all steps are held", p(x), 10);
        Due.is("N in READY", n(x), 3);
    }

    private static void holdsNames() {
        for (int n = 2; n <= 4; n++) {
            Scene made = scene(n, 8, 8);
            for (int i = 0; i < n; i++) {
                made.keeps(kindOf(i), NAME);
                made.keeps(child(i, 0), i);
                made.keeps(child(i, 1), -1);
            }
        }
    }

    private static void holdsNothingElse() {
        for (int n = 2; n <= 4; n++) {
            Scene made = scene(n, 8, 8);
            made.keeps(count(C_TERMS), n);
            made.keeps(kindOf(n), ERR_HANDLE);
            made.keeps(count(C_KNOW), 0);
            made.keeps(entry(0), ERR_RANGE);
            made.keeps(count(C_RULES), 0);
            for (int which = 0; which < 3; which++) {
                made.keeps(ruleTerm(0, which), ERR_RANGE);
            }
            made.keeps(count(C_STEPS), 0);
            made.keeps(stepFact(0), ERR_STEP);
            made.keeps(count(C_PHASE), BUILD);
            made.keeps(count(C_KNOWN), ERR_PHASE);
        }
        objectsAreApart();
    }

    private static void objectsAreApart() {
        Scene built = scene(3, 12, 12, make(VAR, 0, 0), make(SENC, 3, 1), know(2), know(1),
            rule(4, 3, 2));
        Scene[] scenes = {scene(3, 12, 12), built, built.then(saturate(), step(S_INIT, 1, 0, 0))};
        for (Scene scene : scenes) {
            List<Integer> alone = Later.builtOn(scene.play());
            HornProtocol x = scene.play();
            Later.filled(new HornProtocol(4, 16, 32));
            Later.builtOn(new HornProtocol(2, 8, 8));
            Due.holds(scene + "other objects change nothing", alone.equals(Later.builtOn(x)));
            Due.holds(scene + "older objects change nothing",
                alone.equals(Later.builtOn(scene.play())));
        }
    }

    private static void universe() {
        for (int n = 2; n <= 4; n++) {
            Scene made = scene(n, 8, 8);
            made.keeps(count(C_UNIVERSE), n);
            for (int i = 0; i < n; i++) {
                made.keeps(groundId(i, 0, 0), i * 16);
                made.keeps(groundId(i, n - 1, n - 1), i * 16);
            }
        }
    }
}
