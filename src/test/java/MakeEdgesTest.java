import java.util.List;
import java.util.Set;
import java.util.TreeSet;

/** Promise 2, sentence by sentence. */
public final class MakeEdgesTest extends Edges {
    private static final int[] BINARY = {PAIR, SENC, AENC};

    /** Handles: 0, 1 names; 2 is x; 3 is PK(a); 4 is (a,x). */
    private static final Scene SOME =
        scene(2, 8, 8, make(VAR, 0, 0), make(PK, 0, 0), make(PAIR, 0, 2));
    private static final Scene FULL =
        SOME.then(make(SENC, 0, 1), make(AENC, 1, 0), make(PK, 4, 0));
    private static final Scene DONE = SOME.then(know(0), saturate());
    private static final Scene DONE_FULL = FULL.then(know(0), saturate());

    public static void main(String[] args) {
        Due.sentence("Conditions are examined in this order, and the first that holds decides the"
            + " refusal", MakeEdgesTest::firstDecides);
        Due.sentence("Phase READY: ERR_PHASE.", MakeEdgesTest::ready);
        Due.sentence("kind not one of VAR, PAIR, SENC, AENC, PK (NAME included, and any other"
            + " int): ERR_KIND.", MakeEdgesTest::kind);
        Due.sentence("VAR with a not 0 or 1: ERR_RANGE.", MakeEdgesTest::variable);
        Due.sentence("PK with a not a handle (0 <= a < count(C_TERMS)): ERR_HANDLE",
            MakeEdgesTest::publicKey);
        Due.sentence("b is ignored for PK.", MakeEdgesTest::publicKeyIgnoresB);
        Due.sentence("PAIR, SENC, AENC with a, then b, not a handle: ERR_HANDLE.",
            MakeEdgesTest::parts);
        Due.sentence("The term is (kind, a, b) for PAIR, SENC, AENC and (kind, a, -1) for VAR and"
            + " PK", MakeEdgesTest::fields);
        Due.sentence("for VAR, b is ignored.", MakeEdgesTest::variableIgnoresB);
        Due.sentence("If an arena term already has that kind, left and right, its handle is"
            + " answered and nothing changes", MakeEdgesTest::again);
        Due.sentence("(this holds even when the arena is full)", MakeEdgesTest::againWhenFull);
        Due.sentence("Else if the arena holds T terms: ERR_FULL, nothing changes.",
            MakeEdgesTest::full);
        Due.sentence("Else the term is added with handle count(C_TERMS) (the old value), which is"
            + " answered, and count(C_TERMS) grows by one.", MakeEdgesTest::added);
        Due.sentence("Nothing else changes; existing handles keep their kind, left and right.",
            MakeEdgesTest::nothingElse);
        Due.sentence("The universe U may grow by the instances of the new term.",
            MakeEdgesTest::universe);
        Due.end();
    }

    /** Each pair of conditions that can hold at once. */
    private static void firstDecides() {
        DONE.keeps(make(NAME, 9, 9), ERR_PHASE);
        DONE.keeps(make(VAR, 2, 0), ERR_PHASE);
        DONE.keeps(make(PK, 5, 0), ERR_PHASE);
        DONE.keeps(make(PAIR, 5, 5), ERR_PHASE);
        DONE.keeps(make(PK, 0, 0), ERR_PHASE);
        DONE_FULL.keeps(make(PAIR, 1, 1), ERR_PHASE);
        DONE_FULL.keeps(make(99, -5, -5), ERR_PHASE);
        SOME.keeps(make(NAME, 2, 0), ERR_KIND);
        SOME.keeps(make(6, 5, 5), ERR_KIND);
        SOME.keeps(make(-1, MIN, MAX), ERR_KIND);
        FULL.keeps(make(NAME, 0, -1), ERR_KIND);
        FULL.keeps(make(6, 1, 1), ERR_KIND);
        FULL.keeps(make(VAR, 2, 0), ERR_RANGE);
        FULL.keeps(make(PK, 8, 0), ERR_HANDLE);
        for (int kind : BINARY) {
            FULL.keeps(make(kind, 8, 0), ERR_HANDLE);
            FULL.keeps(make(kind, 0, 8), ERR_HANDLE);
            SOME.keeps(make(kind, 5, 5), ERR_HANDLE);
        }
    }

    private static void ready() {
        DONE.keeps(make(VAR, 0, 0), ERR_PHASE);
        DONE.keeps(make(VAR, 1, 0), ERR_PHASE);
        DONE.keeps(make(PK, 1, 0), ERR_PHASE);
        for (int kind : BINARY) {
            DONE.keeps(make(kind, 0, 1), ERR_PHASE);
        }
        scene(2, 8, 8, saturate()).keeps(make(PK, 0, 0), ERR_PHASE);
        DONE.times(8, step(S_INIT, 0, 0, 0)).keeps(make(PK, 1, 0), ERR_PHASE);
    }

    private static void kind() {
        SOME.keeps(make(NAME, 0, 0), ERR_KIND);
        SOME.keeps(make(NAME, 0, -1), ERR_KIND);
        SOME.keeps(make(NAME, 1, -1), ERR_KIND);
        for (int kind : outside(VAR, PK)) {
            SOME.keeps(make(kind, 0, 0), ERR_KIND);
        }
    }

    private static void variable() {
        for (int a : outside(0, 1)) {
            SOME.keeps(make(VAR, a, 0), ERR_RANGE);
            SOME.keeps(make(VAR, a, -1), ERR_RANGE);
        }
        SOME.keeps(make(VAR, 4, 0), ERR_RANGE);
        SOME.answers(make(VAR, 0, 0), 2);
        SOME.answers(make(VAR, 1, 0), 5);
    }

    private static void publicKey() {
        for (int a : outside(0, 4)) {
            SOME.keeps(make(PK, a, 0), ERR_HANDLE);
        }
        scene(2, 8, 8).keeps(make(PK, 2, 0), ERR_HANDLE);
        SOME.answers(make(PK, 4, 0), 5);
        SOME.answers(make(PK, 0, 0), 3);
    }

    private static void publicKeyIgnoresB() {
        for (int b : outside(0, 4)) {
            SOME.keeps(make(PK, 0, b), 3);
            SOME.answers(make(PK, 1, b), 5);
        }
        for (int b = 0; b < 5; b++) {
            SOME.keeps(make(PK, 0, b), 3);
            SOME.then(make(PK, 1, b)).keeps(make(PK, 1, -1), 5);
        }
    }

    private static void parts() {
        for (int kind : BINARY) {
            for (int odd : outside(0, 4)) {
                SOME.keeps(make(kind, odd, 0), ERR_HANDLE);
                SOME.keeps(make(kind, 0, odd), ERR_HANDLE);
                SOME.keeps(make(kind, odd, odd), ERR_HANDLE);
            }
            SOME.answers(make(kind, 4, 4), 5);
            SOME.answers(make(kind, 4, 0), 5);
        }
    }

    private static void term(Scene scene, int h, int kind, int left, int right) {
        scene.keeps(kindOf(h), kind);
        scene.keeps(child(h, 0), left);
        scene.keeps(child(h, 1), right);
    }

    private static void fields() {
        for (int kind : BINARY) {
            term(SOME.then(make(kind, 4, 3)), 5, kind, 4, 3);
            term(SOME.then(make(kind, 2, 0)), 5, kind, 2, 0);
        }
        term(SOME.then(make(VAR, 1, 3)), 5, VAR, 1, -1);
        term(scene(2, 8, 8, make(VAR, 0, 1)), 2, VAR, 0, -1);
        term(SOME.then(make(PK, 4, 3)), 5, PK, 4, -1);
    }

    private static void variableIgnoresB() {
        for (int b : outside(0, 4)) {
            SOME.keeps(make(VAR, 0, b), 2);
            SOME.answers(make(VAR, 1, b), 5);
        }
        for (int b = 0; b < 5; b++) {
            SOME.keeps(make(VAR, 0, b), 2);
            SOME.then(make(VAR, 1, b)).keeps(make(VAR, 1, -1), 5);
        }
    }

    private static void again() {
        SOME.keeps(make(VAR, 0, 0), 2);
        SOME.keeps(make(PK, 0, 0), 3);
        SOME.keeps(make(PAIR, 0, 2), 4);
        // One of kind, left and right differs: another term.
        SOME.answers(make(VAR, 1, 0), 5);
        SOME.answers(make(PK, 1, 0), 5);
        SOME.answers(make(PAIR, 1, 2), 5);
        SOME.answers(make(PAIR, 0, 1), 5);
        SOME.answers(make(PAIR, 2, 0), 5);
        SOME.answers(make(SENC, 0, 2), 5);
        SOME.answers(make(AENC, 0, 2), 5);
        // (a,x) and (a,b) are other terms, though an instance of the one is the other.
        SOME.then(make(PAIR, 0, 1)).keeps(make(PAIR, 0, 2), 4);
        SOME.then(make(PAIR, 0, 1)).keeps(make(PAIR, 0, 1), 5);
    }

    private static void againWhenFull() {
        FULL.keeps(make(VAR, 0, 0), 2);
        FULL.keeps(make(VAR, 0, MAX), 2);
        FULL.keeps(make(PK, 0, 0), 3);
        FULL.keeps(make(PK, 0, MIN), 3);
        FULL.keeps(make(PAIR, 0, 2), 4);
        FULL.keeps(make(SENC, 0, 1), 5);
        FULL.keeps(make(AENC, 1, 0), 6);
        FULL.keeps(make(PK, 4, 0), 7);
    }

    private static void full() {
        FULL.keeps(make(VAR, 1, 0), ERR_FULL);
        FULL.keeps(make(PK, 1, 0), ERR_FULL);
        FULL.keeps(make(PK, 7, 0), ERR_FULL);
        FULL.keeps(make(PAIR, 2, 0), ERR_FULL);
        FULL.keeps(make(SENC, 1, 0), ERR_FULL);
        FULL.keeps(make(AENC, 0, 1), ERR_FULL);
        // An instance of (a,x), but no arena term.
        FULL.keeps(make(PAIR, 0, 1), ERR_FULL);
        for (int t = 8; t <= 16; t++) {
            for (int n = 2; n <= 4; n++) {
                Scene chain = scene(n, t, 8);
                for (int h = n; h < t; h++) {
                    chain = chain.then(make(PK, h - 1, 0));
                }
                chain.keeps(make(PK, t - 1, 0), ERR_FULL);
                chain.keeps(make(PAIR, 0, t - 1), ERR_FULL);
            }
        }
    }

    private static void added() {
        for (int n = 2; n <= 4; n++) {
            HornProtocol x = new HornProtocol(n, 16, 8);
            for (int h = n; h < 16; h++) {
                Due.is("C_TERMS", x.count(C_TERMS), h);
                Due.is("make(PK, " + (h - 1) + ", 0)", x.make(PK, h - 1, 0), h);
                Due.is("C_TERMS after it", x.count(C_TERMS), h + 1);
            }
        }
    }

    private static void nothingElse() {
        int[][] makes = {{VAR, 0, 7}, {PK, 3, 7}, {PAIR, 3, 1}, {SENC, 5, 4}, {AENC, 6, 6},
            {VAR, 1, 0}, {PAIR, 7, 8}, {PK, 9, 0}};
        HornProtocol x = scene(3, 11, 8, know(2), rule(0, 1, 2)).play();
        for (int[] m : makes) {
            int h = x.count(C_TERMS);
            List<Integer> before = Look.all(x);
            Due.is("make", x.make(m[0], m[1], m[2]), h);
            Set<String> changed = Look.changed(before, Look.all(x));
            changed.remove("count(0)");
            changed.remove("count(5)");
            Set<String> own = new TreeSet<>();
            for (String call : changed) {
                if (call.matches("(kindOf|child|groundId)\\(" + h + "\\b.*")) {
                    own.add(call);
                }
            }
            changed.removeAll(own);
            Due.holds("make of " + h + " leaves all but its own fields: " + changed,
                changed.isEmpty());
        }
        Due.is("all were made", x.count(C_TERMS), 11);
    }

    private static void universe() {
        for (int n = 2; n <= 4; n++) {
            HornProtocol x = new HornProtocol(n, 16, 8);
            int size = n;
            int[][] makes = {{VAR, 0, 0, 0}, {VAR, 1, 0, 0}, {PK, n, 0, n}, {PK, n + 1, 0, 0},
                {PK, 1, 0, 0}, {PAIR, n, n, n}, {PAIR, n, n + 1, n * n - n}, {PAIR, n + 1, n, 0},
                {PAIR, 0, 1, 0}, {SENC, 0, n, n}, {AENC, 0, 0, 1}, {SENC, n + 1, 0, n - 1}};
            for (int[] m : makes) {
                Due.is("make", x.make(m[0], m[1], m[2]), x.count(C_TERMS) - 1);
                size += m[3];
                Due.is("C_UNIVERSE after " + x.count(C_TERMS), x.count(C_UNIVERSE), size);
            }
        }
    }
}
