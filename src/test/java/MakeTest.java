/** Promise 2. */
public final class MakeTest {
    public static void main(String[] args) {
        termsAreStoredOnce();
        refusals();
        fullArena();
        readyComesFirst();
        Due.end();
    }

    private static void term(HornProtocol x, int h, int kind, int left, int right) {
        Due.is("kindOf " + h, x.kindOf(h), kind);
        Due.is("left " + h, x.child(h, 0), left);
        Due.is("right " + h, x.child(h, 1), right);
    }

    private static void termsAreStoredOnce() {
        HornProtocol x = new HornProtocol(3, 16, 8);
        int[][] made = {{1, 0, -1}, {1, 1, -1}, {2, 0, 1}, {2, 1, 0}, {3, 0, 1}, {4, 0, 1},
            {5, 0, -1}, {5, 1, -1}, {2, 3, 3}, {4, 4, 9}, {5, 3, -1}};
        for (int i = 0; i < made.length; i++) {
            int[] m = made[i];
            Due.is("make " + i, x.make(m[0], m[1], m[2]), 3 + i);
            Due.is("C_TERMS", x.count(HornProtocol.C_TERMS), 4 + i);
        }
        for (int i = 0; i < made.length; i++) {
            int[] m = made[i];
            term(x, 3 + i, m[0], m[1], m[2]);
            Due.still(x, "make again " + i, () -> x.make(m[0], m[1], m[2]), 3 + i);
        }
        for (int odd : Due.ODD_INTS) {
            Due.still(x, "VAR ignores b", () -> x.make(HornProtocol.VAR, 1, odd), 4);
            Due.still(x, "PK ignores b", () -> x.make(HornProtocol.PK, 1, odd), 10);
        }
        // A new VAR or PK keeps -1 as its right field, whatever b was.
        HornProtocol y = new HornProtocol(2, 8, 8);
        Due.is("VAR with b 1", y.make(HornProtocol.VAR, 1, 1), 2);
        term(y, 2, HornProtocol.VAR, 1, -1);
        Due.is("PK with b 1", y.make(HornProtocol.PK, 1, 1), 3);
        term(y, 3, HornProtocol.PK, 1, -1);
        Due.is("PK with b 0", y.make(HornProtocol.PK, 1, 0), 3);
    }

    private static void refusals() {
        HornProtocol x = new HornProtocol(2, 8, 8);
        Due.still(x, "make NAME", () -> x.make(HornProtocol.NAME, 0, -1), -3);
        Due.still(x, "make 6", () -> x.make(6, 99, 99), -3);
        for (int odd : Due.ODD_INTS) {
            Due.still(x, "kind " + odd, () -> x.make(odd, 0, 0), -3);
            Due.still(x, "VAR " + odd, () -> x.make(HornProtocol.VAR, odd, 0), -4);
            Due.still(x, "PK " + odd, () -> x.make(HornProtocol.PK, odd, 0), -5);
            for (int kind = HornProtocol.PAIR; kind <= HornProtocol.AENC; kind++) {
                int k = kind;
                Due.still(x, "a " + odd, () -> x.make(k, odd, 0), -5);
                Due.still(x, "b " + odd, () -> x.make(k, 0, odd), -5);
            }
        }
        Due.still(x, "VAR 2", () -> x.make(HornProtocol.VAR, 2, 0), -4);
        Due.still(x, "PK of the next handle", () -> x.make(HornProtocol.PK, 2, 0), -5);
        Due.still(x, "PAIR a the next handle", () -> x.make(HornProtocol.PAIR, 2, 0), -5);
        Due.still(x, "SENC b the next handle", () -> x.make(HornProtocol.SENC, 0, 2), -5);
        Due.still(x, "AENC b NONE", () -> x.make(HornProtocol.AENC, 0, -1), -5);
    }

    private static void fullArena() {
        HornProtocol x = new HornProtocol(2, 8, 8);
        for (int h = 2; h < 8; h++) {
            Due.is("make " + h, x.make(HornProtocol.PK, h - 1, 0), h);
        }
        Due.still(x, "a new term", () -> x.make(HornProtocol.PAIR, 0, 0), -6);
        Due.still(x, "a new VAR", () -> x.make(HornProtocol.VAR, 0, 0), -6);
        Due.still(x, "an old term", () -> x.make(HornProtocol.PK, 6, 0), 7);
        Due.still(x, "no kind", () -> x.make(0, 0, 0), -3);
        Due.still(x, "no variable", () -> x.make(HornProtocol.VAR, 2, 0), -4);
        Due.still(x, "no handle", () -> x.make(HornProtocol.PAIR, 0, 8), -5);
    }

    private static void readyComesFirst() {
        HornProtocol x = new HornProtocol(2, 8, 8);
        x.make(HornProtocol.PK, 0, 0);
        x.saturate();
        Due.still(x, "a new term", () -> x.make(HornProtocol.PK, 1, 0), -2);
        Due.still(x, "an old term", () -> x.make(HornProtocol.PK, 0, 0), -2);
        Due.still(x, "no kind", () -> x.make(99, 0, 0), -2);
        Due.still(x, "no variable", () -> x.make(HornProtocol.VAR, 2, 0), -2);
        Due.still(x, "no handle", () -> x.make(HornProtocol.PK, -1, 0), -2);
    }
}
