/** Promise 13. */
public final class CountTest {
    public static void main(String[] args) {
        HornProtocol x = new HornProtocol(3, 10, 9);
        counts(x, "new", new int[] {3, 0, 0, 0, 0, 3, -2});
        int v = x.make(HornProtocol.VAR, 0, 0);
        counts(x, "a variable adds no ground term", new int[] {4, 0, 0, 0, 0, 3, -2});
        int pk = x.make(HornProtocol.PK, v, 0);
        counts(x, "PK(x)", new int[] {5, 0, 0, 0, 0, 6, -2});
        int pk1 = x.make(HornProtocol.PK, 1, 0);
        counts(x, "PK(b) is there already", new int[] {6, 0, 0, 0, 0, 6, -2});
        int w = x.make(HornProtocol.VAR, 1, 0);
        int pair = x.make(HornProtocol.PAIR, v, w);
        counts(x, "(x,y)", new int[] {8, 0, 0, 0, 0, 15, -2});
        int box = x.make(HornProtocol.SENC, pair, pk);
        counts(x, "SENC((x,y),PK(x))", new int[] {9, 0, 0, 0, 0, 24, -2});
        x.make(HornProtocol.AENC, 0, 0);
        counts(x, "AENC(a,a)", new int[] {10, 0, 0, 0, 0, 25, -2});
        x.make(HornProtocol.AENC, 0, 1);
        counts(x, "a full arena", new int[] {10, 0, 0, 0, 0, 25, -2});
        x.know(1);
        x.know(1);
        counts(x, "entries", new int[] {10, 2, 0, 0, 0, 25, -2});
        x.rule(box, -1, v);
        counts(x, "a rule", new int[] {10, 2, 1, 0, 0, 25, -2});
        // b, PK(b), (b,b), SENC((b,b),PK(b)).
        Due.is("saturate", x.saturate(), 4);
        counts(x, "READY", new int[] {10, 2, 1, 0, 1, 25, 4});
        x.step(HornProtocol.S_INIT, 0, 0, 0);
        x.step(HornProtocol.S_FST, 0, 0, 0);
        counts(x, "a step and a refusal", new int[] {10, 2, 1, 1, 1, 25, 4});
        for (int j = 1; j < 12; j++) {
            x.step(HornProtocol.S_INIT, 0, 0, 0);
        }
        counts(x, "all steps", new int[] {10, 2, 1, 9, 1, 25, 4});
        Due.is("rank of PK(b)", x.rank(pk1, 0, 0), 1);
        Due.end();
    }

    private static void counts(HornProtocol x, String when, int[] due) {
        for (int i = 0; i < due.length; i++) {
            int what = i;
            Due.still(x, when + ": count " + what, () -> x.count(what), due[what]);
        }
        Due.still(x, when + ": count 7", () -> x.count(7), -4);
        for (int odd : Due.ODD_INTS) {
            Due.still(x, when + ": count " + odd, () -> x.count(odd), -4);
        }
    }
}
