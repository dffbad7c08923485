/** Promise 6, and how K and the ranks come about. */
public final class RankTest {
    public static void main(String[] args) {
        refusals();
        composing();
        composingLacksAPart();
        splitting();
        symmetric();
        publicKey();
        rulesInRounds();
        oneAssignmentForARule();
        equalTermsOfUnlikeHandles();
        longChain();
        Due.end();
    }

    private static void ranked(HornProtocol x, String what, int h, int want) {
        Due.is("rank of " + what, x.rank(h, 0, 0), want);
    }

    private static void refusals() {
        HornProtocol x = new HornProtocol(3, 16, 8);
        x.know(0);
        Due.still(x, "rank in BUILD", () -> x.rank(0, 0, 0), -2);
        Due.still(x, "no handle in BUILD", () -> x.rank(-1, 9, 9), -2);
        x.saturate();
        Due.still(x, "rank", () -> x.rank(0, 2, 2), 0);
        Due.still(x, "rank of a secret", () -> x.rank(1, 0, 0), HornProtocol.UNDERIVABLE);
        Due.still(x, "the next handle", () -> x.rank(3, 0, 0), -5);
        Due.still(x, "no handle and no names", () -> x.rank(3, 3, 3), -5);
        Due.still(x, "vx is N", () -> x.rank(0, 3, 0), -4);
        Due.still(x, "vy is N", () -> x.rank(0, 0, 3), -4);
        for (int odd : Due.ODD_INTS) {
            Due.still(x, "h " + odd, () -> x.rank(odd, 0, 0), -5);
            Due.still(x, "vx " + odd, () -> x.rank(0, odd, 0), -4);
            Due.still(x, "vy " + odd, () -> x.rank(0, 0, odd), -4);
        }
    }

    private static void composing() {
        HornProtocol x = new HornProtocol(2, 16, 8);
        int pair = x.make(HornProtocol.PAIR, 0, 1);
        int senc = x.make(HornProtocol.SENC, pair, 1);
        int pk = x.make(HornProtocol.PK, senc, 0);
        int aenc = x.make(HornProtocol.AENC, 0, pk);
        int mixed = x.make(HornProtocol.PAIR, pair, aenc);
        x.know(0);
        x.know(1);
        Due.is("saturate", x.saturate(), 7);
        ranked(x, "an entry", 0, 0);
        ranked(x, "PAIR", pair, 1);
        ranked(x, "SENC", senc, 2);
        ranked(x, "PK", pk, 3);
        ranked(x, "AENC", aenc, 4);
        ranked(x, "a PAIR of unlike ranks", mixed, 5);
    }

    private static void composingLacksAPart() {
        HornProtocol x = new HornProtocol(2, 16, 8);
        int pk0 = x.make(HornProtocol.PK, 0, 0);
        int pk1 = x.make(HornProtocol.PK, 1, 0);
        int[] lacking = {pk1, x.make(HornProtocol.PAIR, 0, 1), x.make(HornProtocol.PAIR, 1, 0),
            x.make(HornProtocol.SENC, 0, 1), x.make(HornProtocol.SENC, 1, 0),
            x.make(HornProtocol.AENC, 0, pk1), x.make(HornProtocol.AENC, 1, pk0)};
        x.know(0);
        Due.is("saturate", x.saturate(), 2);
        ranked(x, "PK of an entry", pk0, 1);
        for (int h : lacking) {
            ranked(x, "a term with a secret part, " + h, h, -1);
        }
    }

    private static void splitting() {
        HornProtocol x = new HornProtocol(4, 16, 8);
        int inner = x.make(HornProtocol.PAIR, 1, 2);
        int outer = x.make(HornProtocol.PAIR, 0, inner);
        x.know(outer);
        Due.is("saturate", x.saturate(), 5);
        ranked(x, "the whole", outer, 0);
        ranked(x, "its left part", 0, 1);
        ranked(x, "its right part", inner, 1);
        ranked(x, "the inner left part", 1, 2);
        ranked(x, "the inner right part", 2, 2);
        ranked(x, "a name that is no part", 3, -1);
    }

    private static void symmetric() {
        HornProtocol x = new HornProtocol(4, 16, 8);
        int pk1 = x.make(HornProtocol.PK, 1, 0);
        int open = x.make(HornProtocol.SENC, 0, 1);
        int underPk = x.make(HornProtocol.SENC, 2, pk1);
        int shut = x.make(HornProtocol.SENC, 3, 3);
        x.know(open);
        x.know(underPk);
        x.know(shut);
        x.know(1);
        Due.is("saturate", x.saturate(), 7);
        ranked(x, "the plaintext", 0, 1);
        ranked(x, "PK of the key name", pk1, 1);
        ranked(x, "a plaintext under a PK", 2, 2);
        ranked(x, "a plaintext under itself", 3, -1);

        HornProtocol y = new HornProtocol(4, 16, 8);
        int under = y.make(HornProtocol.PK, 1, 0);
        y.know(y.make(HornProtocol.SENC, 2, under));
        y.know(y.make(HornProtocol.PAIR, 3, 3));
        y.saturate();
        ranked(y, "a plaintext under an unknown PK", 2, -1);
        ranked(y, "the key", under, -1);
    }

    private static void publicKey() {
        HornProtocol x = new HornProtocol(4, 16, 8);
        int pk1 = x.make(HornProtocol.PK, 1, 0);
        int pk2 = x.make(HornProtocol.PK, 2, 0);
        int open = x.make(HornProtocol.AENC, 0, pk1);
        int shut = x.make(HornProtocol.AENC, 3, pk2);
        x.know(open);
        x.know(shut);
        x.know(pk2);
        x.know(1);
        Due.is("saturate", x.saturate(), 6);
        ranked(x, "the plaintext", 0, 1);
        ranked(x, "a plaintext whose PK alone is known", 3, -1);
        ranked(x, "the private part", 2, -1);

        HornProtocol y = new HornProtocol(4, 16, 8);
        int plainKey = y.make(HornProtocol.AENC, 0, 1);
        y.know(plainKey);
        y.know(1);
        Due.is("an AENC whose key is no PK", y.saturate(), 2);
        ranked(y, "its plaintext", 0, -1);
    }

    private static void rulesInRounds() {
        HornProtocol x = new HornProtocol(4, 16, 8);
        x.rule(0, -1, 1);
        x.rule(-1, -1, 0);
        x.rule(1, 0, 2);
        Due.is("saturate", x.saturate(), 3);
        ranked(x, "a conclusion without premise", 0, 1);
        ranked(x, "its follower", 1, 2);
        ranked(x, "what needs both", 2, 3);
        ranked(x, "what no rule gives", 3, -1);

        HornProtocol y = new HornProtocol(4, 16, 8);
        y.rule(0, 1, 2);
        y.know(1);
        y.saturate();
        ranked(y, "a conclusion that lacks its first premise", 2, -1);
        HornProtocol z = new HornProtocol(4, 16, 8);
        z.rule(0, 1, 2);
        z.know(0);
        z.saturate();
        ranked(z, "a conclusion that lacks its second premise", 2, -1);
    }

    private static void oneAssignmentForARule() {
        // Under keys that are no PK nothing opens, so only the rule can give a name.
        HornProtocol x = new HornProtocol(4, 16, 8);
        int vx = x.make(HornProtocol.VAR, 0, 0);
        int vy = x.make(HornProtocol.VAR, 1, 0);
        int there = x.make(HornProtocol.AENC, vx, vy);
        int back = x.make(HornProtocol.AENC, vy, vx);
        x.know(x.make(HornProtocol.AENC, 0, 1));
        x.know(x.make(HornProtocol.AENC, 1, 2));
        x.know(x.make(HornProtocol.AENC, 3, 3));
        x.rule(there, back, vx);
        Due.is("saturate", x.saturate(), 4);
        for (int n = 0; n < 4; n++) {
            Due.is("rank of name " + n, x.rank(vx, n, 0), n == 3 ? 1 : -1);
        }
        // A variable stands for a name, never for a larger term.
        HornProtocol y = new HornProtocol(2, 16, 8);
        int v = y.make(HornProtocol.VAR, 0, 0);
        int large = y.make(HornProtocol.PAIR, 0, 0);
        int wrap = y.make(HornProtocol.SENC, v, 1);
        int wrapLarge = y.make(HornProtocol.SENC, large, 1);
        y.know(wrapLarge);
        y.rule(wrap, -1, v);
        Due.is("saturate", y.saturate(), 1);
        Due.is("rank of the large term", y.rank(large, 0, 0), -1);
    }

    private static void equalTermsOfUnlikeHandles() {
        HornProtocol x = new HornProtocol(3, 16, 8);
        int vy = x.make(HornProtocol.VAR, 1, 0);
        int open = x.make(HornProtocol.PAIR, vy, 0);
        int ground = x.make(HornProtocol.PAIR, 2, 0);
        x.know(ground);
        x.saturate();
        for (int n = 0; n < 3; n++) {
            Due.is("rank of (y,a)", x.rank(open, n, 2), 0);
            Due.is("rank of (c,a)", x.rank(ground, n, n), 0);
            Due.is("rank of y as c", x.rank(vy, n, 2), 1);
            Due.is("rank of y as b", x.rank(vy, n, 1), -1);
            Due.is("rank of (a,a)", x.rank(open, n, 0), 2);
        }
    }

    private static void longChain() {
        HornProtocol x = new HornProtocol(2, 16, 32);
        int last = 0;
        for (int i = 1; i <= 14; i++) {
            last = x.make(HornProtocol.PK, last, 0);
        }
        x.know(0);
        Due.is("saturate", x.saturate(), 15);
        Due.is("rank of the last", x.rank(last, 1, 1), 14);
    }
}
