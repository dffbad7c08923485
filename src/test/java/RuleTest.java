/** Promise 4. */
public final class RuleTest {
    public static void main(String[] args) {
        premiseLists();
        refusals();
        unbound();
        fullAndReady();
        Due.end();
    }

    /** Handles: 0, 1 names; 2 is x; 3 is y; 4 is (x,y); 5 is PK(x); 6 is SENC(a,y). */
    private static HornProtocol arena() {
        HornProtocol x = new HornProtocol(2, 8, 8);
        x.make(HornProtocol.VAR, 0, 0);
        x.make(HornProtocol.VAR, 1, 0);
        x.make(HornProtocol.PAIR, 2, 3);
        x.make(HornProtocol.PK, 2, 0);
        x.make(HornProtocol.SENC, 0, 3);
        return x;
    }

    private static void premiseLists() {
        HornProtocol x = arena();
        int[][] given = {{-1, -1, 0}, {2, -1, 2}, {-1, 3, 3}, {2, 3, 4}, {6, 5, 4}, {4, 4, 4},
            {0, 1, 0}, {4, 1, 1}};
        int[][] held = {{-1, -1, 0}, {2, -1, 2}, {3, -1, 3}, {2, 3, 4}, {6, 5, 4}, {4, 4, 4},
            {0, 1, 0}, {4, 1, 1}};
        for (int r = 0; r < given.length; r++) {
            Due.is("rule " + r, x.rule(given[r][0], given[r][1], given[r][2]), r);
            Due.is("C_RULES", x.count(HornProtocol.C_RULES), r + 1);
        }
        for (int r = 0; r < given.length; r++) {
            for (int which = 0; which < 3; which++) {
                Due.is("ruleTerm " + r + " " + which, x.ruleTerm(r, which), held[r][which]);
            }
        }
    }

    private static void refusals() {
        HornProtocol x = arena();
        for (int odd : Due.ODD_INTS) {
            if (odd != HornProtocol.NONE) {
                Due.still(x, "p1 " + odd, () -> x.rule(odd, 0, 0), -5);
                Due.still(x, "p2 " + odd, () -> x.rule(0, odd, 0), -5);
            }
            Due.still(x, "c " + odd, () -> x.rule(0, 0, odd), -5);
        }
        Due.still(x, "p1 the next handle", () -> x.rule(7, -1, 0), -5);
        Due.still(x, "p2 the next handle", () -> x.rule(-1, 7, 0), -5);
        Due.still(x, "c the next handle", () -> x.rule(-1, -1, 7), -5);
        Due.still(x, "p1 wrong and c unbound", () -> x.rule(7, -1, 2), -5);
    }

    private static void unbound() {
        HornProtocol x = arena();
        Due.still(x, "no premise, x", () -> x.rule(-1, -1, 2), -8);
        Due.still(x, "no premise, y", () -> x.rule(-1, -1, 3), -8);
        Due.still(x, "no premise, deep", () -> x.rule(-1, -1, 6), -8);
        Due.still(x, "x binds no y", () -> x.rule(5, -1, 3), -8);
        Due.still(x, "y binds no x", () -> x.rule(-1, 6, 5), -8);
        Due.still(x, "one of two", () -> x.rule(2, 5, 4), -8);
        Due.still(x, "ground premises", () -> x.rule(0, 1, 6), -8);
        Due.is("bound by both", x.rule(5, 6, 4), 0);
        Due.is("bound by the second", x.rule(0, 4, 6), 1);
        Due.is("bound by the first", x.rule(4, 0, 5), 2);
    }

    private static void fullAndReady() {
        HornProtocol x = arena();
        for (int r = 0; r < 8; r++) {
            Due.is("rule " + r, x.rule(-1, -1, 1), r);
        }
        Due.still(x, "a ninth", () -> x.rule(-1, -1, 1), -6);
        Due.still(x, "a ninth, unbound", () -> x.rule(0, 1, 2), -8);
        Due.still(x, "a ninth, no handle", () -> x.rule(0, 9, 2), -5);
        x.saturate();
        Due.still(x, "rule in READY", () -> x.rule(-1, -1, 1), -2);
        Due.still(x, "no handle in READY", () -> x.rule(-5, -5, -5), -2);
        Due.still(x, "unbound in READY", () -> x.rule(-1, -1, 2), -2);
    }
}
