import java.util.HashMap;
import java.util.Map;

/** Promise 7, sentence by sentence. */
public final class GroundIdEdgesTest extends Edges {
    /** Handles: 0..2 names; 3 is y; 4 is x; 5 is (x,y); 6 is SENC(c,b); 7 is PK(y). */
    private static final Scene SOME = scene(3, 14, 8, make(VAR, 1, 0), make(VAR, 0, 0),
        make(PAIR, 4, 3), make(SENC, 2, 1), make(PK, 3, 0));
    private static final int TERMS = 8;
    private static final Scene DONE = SOME.then(know(0), saturate());
    private static final Scene[] PHASES = {SOME, DONE, DONE.times(8, step(S_INIT, 0, 0, 0))};

    public static void main(String[] args) {
        Due.sentence("`groundId(h, vx, vy)` works in any phase.", GroundIdEdgesTest::anyPhase);
        Due.sentence("Conditions in order", GroundIdEdgesTest::order);
        Due.sentence("h not a handle: ERR_HANDLE", GroundIdEdgesTest::handle);
        Due.sentence("then vx or vy not in 0..N-1: ERR_RANGE", GroundIdEdgesTest::range);
        Due.sentence("(also when h has no VAR)", GroundIdEdgesTest::rangeWithoutVar);
        Due.sentence("Else it answers the ground id of the instance of h under code vx + 4*vy, a"
            + " value in 0..255.", GroundIdEdgesTest::value);
        Due.sentence("Two calls answer the same id exactly when their instances are the same ground"
            + " term.", GroundIdEdgesTest::sameIdSameTerm);
        Due.sentence("Writing the answer as h'*16 + s' with s' in 0..15, the handle h' and the"
            + " names vx' = s' mod 4 and vy' = s' / 4 (both below N) give the same instance.",
            GroundIdEdgesTest::writtenApart);
        Due.sentence("Because later terms get larger handles, adding terms in phase BUILD never"
            + " changes an id already answered.", GroundIdEdgesTest::staysWhenTermsAreAdded);
        Due.sentence("Changes nothing.", GroundIdEdgesTest::changesNothing);
        Due.end();
    }

    private static void anyPhase() {
        for (Scene phase : PHASES) {
            phase.keeps(groundId(0, 0, 0), 0);
            phase.keeps(groundId(2, 1, 1), 32);
            phase.keeps(groundId(4, 1, 2), 16);
            phase.keeps(groundId(3, 1, 2), 32);
            phase.keeps(groundId(5, 1, 2), 5 * 16 + 9);
            phase.keeps(groundId(6, 1, 2), 6 * 16);
            phase.keeps(groundId(7, 1, 2), 7 * 16 + 8);
        }
    }

    private static void order() {
        for (Scene phase : PHASES) {
            phase.keeps(groundId(TERMS, 3, 0), ERR_HANDLE);
            phase.keeps(groundId(TERMS, 0, 3), ERR_HANDLE);
            phase.keeps(groundId(-1, -1, -1), ERR_HANDLE);
            phase.keeps(groundId(MAX, MIN, MAX), ERR_HANDLE);
        }
    }

    private static void handle() {
        for (Scene phase : PHASES) {
            for (int h : outside(0, TERMS - 1)) {
                phase.keeps(groundId(h, 0, 0), ERR_HANDLE);
            }
        }
        scene(2, 8, 8).keeps(groundId(2, 0, 0), ERR_HANDLE);
        scene(2, 8, 8).keeps(groundId(1, 0, 0), 16);
    }

    private static void range() {
        for (Scene phase : PHASES) {
            for (int odd : outside(0, 2)) {
                phase.keeps(groundId(5, odd, 0), ERR_RANGE);
                phase.keeps(groundId(5, 0, odd), ERR_RANGE);
                phase.keeps(groundId(5, odd, odd), ERR_RANGE);
            }
            // The code of these is that of a good assignment.
            phase.keeps(groundId(5, 4, 0), ERR_RANGE);
            phase.keeps(groundId(5, -4, 1), ERR_RANGE);
            phase.keeps(groundId(5, 8, -1), ERR_RANGE);
        }
        for (int n = 2; n <= 4; n++) {
            Scene made = scene(n, 8, 8, make(VAR, 0, 0), make(VAR, 1, 0), make(PAIR, n, n + 1));
            made.keeps(groundId(n + 2, n, 0), ERR_RANGE);
            made.keeps(groundId(n + 2, 0, n), ERR_RANGE);
            made.keeps(groundId(n + 2, n - 1, n - 1), (n + 2) * 16 + (n - 1) * 5);
        }
    }

    private static void rangeWithoutVar() {
        int[] ground = {0, 1, 2, 6};
        for (Scene phase : PHASES) {
            for (int h : ground) {
                for (int odd : outside(0, 2)) {
                    phase.keeps(groundId(h, odd, 0), ERR_RANGE);
                    phase.keeps(groundId(h, 0, odd), ERR_RANGE);
                }
            }
            // Only one variable occurs: the other's value is looked at all the same.
            phase.keeps(groundId(4, 0, 3), ERR_RANGE);
            phase.keeps(groundId(7, 3, 0), ERR_RANGE);
        }
    }

    private static void value() {
        scene(2, 8, 8).keeps(groundId(0, 1, 1), 0);
        // Handle 15 under the greatest assignment: the greatest id.
        Scene wide = scene(4, 16, 8, make(VAR, 0, 0), make(VAR, 1, 0));
        for (int h = 6; h < 15; h++) {
            wide = wide.then(make(PK, h == 6 ? 0 : h - 1, 0));
        }
        Scene widest = wide.then(make(AENC, 4, 5));
        for (int vx = 0; vx < 4; vx++) {
            for (int vy = 0; vy < 4; vy++) {
                widest.keeps(groundId(15, vx, vy), 240 + vx + 4 * vy);
            }
        }
    }

    private static String tree(HornProtocol x, int h, int vx, int vy) {
        int kind = x.kindOf(h);
        int left = x.child(h, 0);
        if (kind == NAME || kind == VAR) {
            return "n" + (kind == NAME ? left : left == 0 ? vx : vy);
        }
        String first = kind + "(" + tree(x, left, vx, vy);
        return kind == PK ? first + ")" : first + "," + tree(x, x.child(h, 1), vx, vy) + ")";
    }

    /** Terms of which many meet in an instance. */
    private static Scene meeting(int n) {
        int y = n;
        int x = n + 1;
        return scene(n, 16, 8, make(VAR, 1, 0), make(VAR, 0, 0), make(PAIR, x, y), make(PAIR, y, x),
            make(PAIR, x, x), make(SENC, x, y), make(PAIR, 0, 1), make(PAIR, y, 1), make(PK, x, 0),
            make(PK, 1, 0));
    }

    private static void sameIdSameTerm() {
        for (int n = 2; n <= 4; n++) {
            HornProtocol x = meeting(n).play();
            Map<Integer, String> treeOf = new HashMap<>();
            Map<String, Integer> idOf = new HashMap<>();
            for (int h = 0; h < x.count(C_TERMS); h++) {
                for (int code = 0; code < n * n; code++) {
                    int id = x.groundId(h, code % n, code / n);
                    String tree = tree(x, h, code % n, code / n);
                    Due.holds("id " + id + " is " + tree + " alone",
                        treeOf.getOrDefault(id, tree).equals(tree));
                    Due.is("the id of " + tree, id, idOf.getOrDefault(tree, id));
                    treeOf.put(id, tree);
                    idOf.put(tree, id);
                }
            }
        }
    }

    private static void writtenApart() {
        for (int n = 2; n <= 4; n++) {
            HornProtocol x = meeting(n).play();
            for (int h = 0; h < x.count(C_TERMS); h++) {
                for (int code = 0; code < n * n; code++) {
                    int id = x.groundId(h, code % n, code / n);
                    int vx = id % 16 % 4;
                    int vy = id % 16 / 4;
                    Due.holds("both names are below N", id >= 0 && vx < n && vy < n);
                    Due.is("id of " + id + " written apart", x.groundId(id / 16, vx, vy), id);
                    Due.holds("the instance of " + id,
                        tree(x, id / 16, vx, vy).equals(tree(x, h, code % n, code / n)));
                }
            }
        }
    }

    private static void staysWhenTermsAreAdded() {
        int[][] makes = {{PAIR, 2, 1}, {VAR, 0, 0}, {PAIR, 5, 1}, {VAR, 1, 0}, {PAIR, 5, 7},
            {PAIR, 7, 5}, {PAIR, 0, 0}, {PK, 4, 0}, {PK, 8, 0}, {SENC, 7, 7}, {SENC, 5, 7}};
        HornProtocol x = scene(4, 16, 8).play();
        Map<String, Integer> answered = new HashMap<>();
        for (int[] m : makes) {
            x.make(m[0], m[1], m[2]);
            for (int h = 0; h < x.count(C_TERMS); h++) {
                for (int code = 0; code < 16; code++) {
                    Call call = groundId(h, code % 4, code / 4);
                    int id = call.on(x);
                    Due.is(call.toString(), id, answered.getOrDefault(call.toString(), id));
                    answered.put(call.toString(), id);
                }
            }
        }
        Due.is("C_TERMS", x.count(C_TERMS), 15);
        // The later handle has the earlier one's id, not the other way round.
        Due.is("(c,b) made first", x.groundId(4, 0, 0), 64);
        Due.is("(x,b) as (c,b)", x.groundId(6, 2, 0), 64);
        Due.is("(x,y) as (c,b)", x.groundId(8, 2, 1), 64);
        Due.is("(y,x) as (c,b)", x.groundId(9, 1, 2), 64);
        Due.is("(a,a) made last", x.groundId(10, 3, 3), 8 * 16);
    }

    private static void changesNothing() {
        for (Scene phase : PHASES) {
            phase.keeps(groundId(5, 2, 2), 5 * 16 + 10);
            phase.keeps(groundId(8, 2, 2), ERR_HANDLE);
            phase.keeps(groundId(5, 3, 2), ERR_RANGE);
        }
    }
}
