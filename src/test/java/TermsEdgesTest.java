import java.util.HashSet;
import java.util.List;
import java.util.Set;

/** The section "Terms, knowledge and rank" where it says what a term and a ground term is. */
public final class TermsEdgesTest extends Edges {
    /** Handles: 0, 1 names; 2 is x; 3 is y; 4 is (x,y); 5 is PK(y). */
    private static final Scene SOME = scene(2, 12, 8, make(VAR, 0, 0), make(VAR, 1, 0),
        make(PAIR, 2, 3), make(PK, 3, 0));
    private static final int TERMS = 6;

    public static void main(String[] args) {
        Due.sentence("The arena holds at most T terms.", TermsEdgesTest::atMostT);
        Due.sentence("Each term has a handle 0, 1, 2, ... given in order of creation",
            TermsEdgesTest::orderOfCreation);
        Due.sentence("NAME: left = name index i (0 <= i < N), right = -1.", TermsEdgesTest::names);
        Due.sentence("VAR: left = 0 (the variable x) or 1 (the variable y), right = -1.",
            TermsEdgesTest::variables);
        Due.sentence("PAIR: left, right = handles of the two parts.", () -> parts(PAIR));
        Due.sentence("SENC: left = handle of the plaintext, right = handle of the key.",
            () -> parts(SENC));
        Due.sentence("AENC: left = handle of the plaintext, right = handle of the key.",
            () -> parts(AENC));
        Due.sentence("PK: left = handle of the private part, right = -1.",
            TermsEdgesTest::privatePart);
        Due.sentence("Handles 0..N-1 are made by the constructor: handle i is NAME i.",
            TermsEdgesTest::names);
        Due.sentence("All other terms come from `make`; their children are earlier handles.",
            TermsEdgesTest::earlierChildren);
        Due.sentence("No two arena terms have the same kind, left and right.",
            TermsEdgesTest::storedOnce);
        Due.sentence("A handle is an int h with 0 <= h < count(C_TERMS).", TermsEdgesTest::handles);
        Due.sentence("An assignment gives x a name vx and y a name vy, with 0 <= vx < N and"
            + " 0 <= vy < N; its code is s = vx + 4*vy.", TermsEdgesTest::codes);
        Due.sentence("The instance of handle h under s is the tree of h with every VAR x replaced"
            + " by NAME vx and every VAR y by NAME vy.", TermsEdgesTest::instances);
        Due.sentence("Two ground terms are equal when they are the same tree.",
            TermsEdgesTest::equalTrees);
        Due.sentence("The universe U is the set of instances of all arena handles under all"
            + " assignments; it is closed under taking parts.", TermsEdgesTest::universe);
        Due.sentence("The ground id of a ground term g in U is the least value h*16 + s over all"
            + " handles h and codes s whose instance is g", TermsEdgesTest::leastId);
        Due.sentence("so every id lies in 0..255.", TermsEdgesTest::idRange);
        Due.end();
    }

    private static Scene chain(int n, int t) {
        Scene chain = scene(n, t, 8);
        for (int h = n; h < t; h++) {
            chain = chain.then(make(PK, h - 1, 0));
        }
        return chain;
    }

    private static void atMostT() {
        for (int n = 2; n <= 4; n++) {
            for (int t = 8; t <= 16; t++) {
                chain(n, t).keeps(count(C_TERMS), t);
                chain(n, t).keeps(make(VAR, 0, 0), ERR_FULL);
            }
        }
    }

    private static void orderOfCreation() {
        int[][] makes = {{AENC, 1, 0}, {PK, 2, 0}, {SENC, 3, 2}, {PAIR, 4, 4}, {VAR, 1, 0},
            {VAR, 0, 0}, {PK, 0, 0}};
        HornProtocol x = scene(2, 16, 8).play();
        for (int i = 0; i < makes.length; i++) {
            int[] m = makes[i];
            Due.is("make " + i, x.make(m[0], m[1], m[2]), 2 + i);
            Due.is("make " + i + " again", x.make(m[0], m[1], m[2]), 2 + i);
        }
        for (int i = 0; i < makes.length; i++) {
            Due.is("kindOf " + (2 + i), x.kindOf(2 + i), makes[i][0]);
        }
    }

    private static void names() {
        for (int n = 2; n <= 4; n++) {
            for (int i = 0; i < n; i++) {
                scene(n, 8, 8).keeps(kindOf(i), NAME);
                scene(n, 8, 8).keeps(child(i, 0), i);
                scene(n, 8, 8).keeps(child(i, 1), -1);
            }
            chain(n, 8).keeps(kindOf(n - 1), NAME);
            chain(n, 8).keeps(kindOf(n), PK);
        }
    }

    private static void fields(Scene built, int h, int kind, int left, int right) {
        built.keeps(kindOf(h), kind);
        built.keeps(child(h, 0), left);
        built.keeps(child(h, 1), right);
    }

    private static void variables() {
        fields(SOME, 2, VAR, 0, -1);
        fields(SOME, 3, VAR, 1, -1);
        // Made the other way round: 0 is x all the same.
        Scene turned = scene(2, 8, 8, make(VAR, 1, 0), make(VAR, 0, 0));
        fields(turned, 2, VAR, 1, -1);
        fields(turned, 3, VAR, 0, -1);
        turned.keeps(groundId(2, 1, 0), 0);
        turned.keeps(groundId(2, 0, 1), 16);
        turned.keeps(groundId(3, 1, 0), 16);
        turned.keeps(groundId(3, 0, 1), 0);
    }

    private static void parts(int kind) {
        fields(SOME.then(make(kind, 5, 1)), 6, kind, 5, 1);
        fields(SOME.then(make(kind, 0, 4)), 6, kind, 0, 4);
        fields(SOME.then(make(kind, 5, 5)), 6, kind, 5, 5);
    }

    private static void privatePart() {
        fields(SOME.then(make(PK, 0, 0)), 6, PK, 0, -1);
        fields(SOME.then(make(PK, 5, 0)), 6, PK, 5, -1);
    }

    private static void earlierChildren() {
        for (int terms = 2; terms <= 15; terms++) {
            Scene some = terms == 2 ? scene(2, 16, 8) : chainOf(terms);
            some.keeps(make(PK, terms, 0), ERR_HANDLE);
            some.keeps(make(PAIR, terms, 0), ERR_HANDLE);
            some.keeps(make(SENC, 0, terms), ERR_HANDLE);
            some.keeps(make(AENC, terms, terms), ERR_HANDLE);
        }
        HornProtocol x = SOME.play();
        for (int h = 2; h < TERMS; h++) {
            boolean parts = x.kindOf(h) != VAR;
            Due.holds("left of " + h, !parts || x.child(h, 0) < h);
            Due.holds("right of " + h, !parts || x.child(h, 1) < h);
        }
    }

    /** A chain of so many terms in an arena that has room for more. */
    private static Scene chainOf(int terms) {
        Scene chain = scene(2, 16, 8);
        for (int h = 2; h < terms; h++) {
            chain = chain.then(make(PK, h - 1, 0));
        }
        return chain;
    }

    private static void storedOnce() {
        int[] bs = {-1, 0, 1, 2, 3};
        HornProtocol x = scene(2, 16, 8).play();
        for (int round = 0; round < 3; round++) {
            for (int kind = NAME; kind <= PK; kind++) {
                for (int a = 0; a < 3; a++) {
                    for (int b : bs) {
                        x.make(kind, a, b);
                    }
                }
            }
        }
        Due.is("C_TERMS", x.count(C_TERMS), 16);
        Set<List<Integer>> seen = new HashSet<>();
        for (int h = 0; h < 16; h++) {
            seen.add(List.of(x.kindOf(h), x.child(h, 0), x.child(h, 1)));
        }
        Due.is("unlike terms", seen.size(), 16);
    }

    private static void handles() {
        Scene done = SOME.then(saturate());
        for (int h = 0; h < TERMS; h++) {
            Due.holds("kindOf " + h, SOME.play().kindOf(h) >= 0);
            Due.holds("child of " + h, SOME.play().child(h, 0) >= 0);
            Due.holds("PK of " + h, SOME.play().make(PK, h, 0) >= 0);
            Due.holds("PAIR with " + h, SOME.play().make(PAIR, h, h) >= 0);
            Due.holds("know " + h, SOME.play().know(h) != ERR_HANDLE);
            Due.is("rule with " + h, SOME.play().rule(h, h, h), 0);
            Due.holds("groundId of " + h, SOME.play().groundId(h, 0, 0) >= 0);
            Due.is("rank of " + h, done.play().rank(h, 0, 0), UNDERIVABLE);
        }
        for (int h : outside(0, TERMS - 1)) {
            SOME.keeps(kindOf(h), ERR_HANDLE);
            SOME.keeps(child(h, 0), ERR_HANDLE);
            SOME.keeps(make(PK, h, 0), ERR_HANDLE);
            SOME.keeps(make(PAIR, h, 0), ERR_HANDLE);
            SOME.keeps(make(PAIR, 0, h), ERR_HANDLE);
            SOME.keeps(know(h), ERR_HANDLE);
            SOME.keeps(rule(0, 0, h), ERR_HANDLE);
            SOME.keeps(groundId(h, 0, 0), ERR_HANDLE);
            done.keeps(rank(h, 0, 0), ERR_HANDLE);
            if (h != NONE) {
                SOME.keeps(rule(h, 0, 0), ERR_HANDLE);
                SOME.keeps(rule(0, h, 0), ERR_HANDLE);
            }
        }
    }

    private static void codes() {
        for (int n = 2; n <= 4; n++) {
            Scene both = scene(n, 8, 8, make(VAR, 0, 0), make(VAR, 1, 0), make(PAIR, n, n + 1));
            for (int vx = 0; vx < n; vx++) {
                for (int vy = 0; vy < n; vy++) {
                    both.keeps(groundId(n + 2, vx, vy), (n + 2) * 16 + vx + 4 * vy);
                }
                both.keeps(groundId(n + 2, vx, n), ERR_RANGE);
                both.keeps(groundId(n + 2, n, vx), ERR_RANGE);
                both.keeps(groundId(n + 2, vx, -1), ERR_RANGE);
                both.keeps(groundId(n + 2, -1, vx), ERR_RANGE);
            }
        }
    }

    private static void instances() {
        // Every x, also where it stands twice and deep: AENC((x,y),PK((x,y))).
        Scene deep = SOME.then(make(PK, 4, 0), make(AENC, 4, 6), make(PAIR, 1, 0), make(PK, 8, 0),
            make(AENC, 8, 9));
        for (int code = 0; code < 4; code++) {
            deep.keeps(groundId(8, code % 2, code / 2), 4 * 16 + 1);
            deep.keeps(groundId(9, code % 2, code / 2), 6 * 16 + 1);
            deep.keeps(groundId(10, code % 2, code / 2), 7 * 16 + 1);
            deep.keeps(groundId(7, code % 2, code / 2), 7 * 16 + code % 2 + code / 2 * 4);
            deep.keeps(groundId(2, code % 2, code / 2), code % 2 * 16);
            deep.keeps(groundId(3, code % 2, code / 2), code / 2 * 16);
        }
    }

    private static void equalTrees() {
        Scene alike = scene(2, 16, 8, make(PAIR, 0, 1), make(PAIR, 1, 0), make(SENC, 0, 1),
            make(AENC, 0, 1), make(PK, 0, 0), make(PK, 6, 0), make(PAIR, 0, 0), make(PAIR, 8, 1),
            make(PAIR, 0, 2));
        // No two of these are the same tree, though they have the same names in them.
        for (int h = 0; h <= 10; h++) {
            alike.keeps(groundId(h, 0, 0), h * 16);
            alike.keeps(groundId(h, 1, 1), h * 16);
        }
        alike.keeps(count(C_UNIVERSE), 11);
        // The same tree out of three handles.
        Scene same = alike.then(make(VAR, 0, 0), make(PAIR, 11, 1), make(PAIR, 0, 11));
        same.keeps(groundId(12, 0, 1), 2 * 16);
        same.keeps(groundId(13, 1, 0), 2 * 16);
        same.keeps(groundId(13, 0, 0), 8 * 16);
        same.keeps(groundId(12, 1, 0), 12 * 16 + 1);
        same.keeps(count(C_UNIVERSE), 12);
    }

    private static void universe() {
        HornProtocol x = SOME.then(make(SENC, 4, 5), make(AENC, 6, 2), make(PK, 7, 0)).play();
        Set<Integer> ids = new HashSet<>();
        for (int h = 0; h < x.count(C_TERMS); h++) {
            for (int code = 0; code < 4; code++) {
                ids.add(x.groundId(h, code % 2, code / 2));
            }
        }
        // 2 names, 4 pairs, 2 PK, 4 SENC, 4 AENC, 4 PK of these.
        Due.is("distinct instances", ids.size(), 20);
        Due.is("C_UNIVERSE", x.count(C_UNIVERSE), 20);
        for (int id : ids) {
            int h = id / 16;
            int kind = x.kindOf(h);
            Due.holds("an id is no variable's", kind != VAR);
            for (int which = 0; kind != NAME && which < (kind == PK ? 1 : 2); which++) {
                int part = x.groundId(x.child(h, which), id % 4, id % 16 / 4);
                Due.holds("part " + which + " of " + id, ids.contains(part));
            }
        }
    }

    private static void leastId() {
        // Over handles: the first of (b,a), (x,a), (x,y) has it.
        Scene late = scene(2, 12, 8, make(PAIR, 1, 0), make(VAR, 0, 0), make(PAIR, 3, 0),
            make(VAR, 1, 0), make(PAIR, 3, 5), make(PAIR, 5, 3));
        late.keeps(groundId(2, 1, 1), 32);
        late.keeps(groundId(4, 1, 1), 32);
        late.keeps(groundId(6, 1, 0), 32);
        late.keeps(groundId(7, 0, 1), 32);
        late.keeps(groundId(4, 0, 1), 4 * 16);
        late.keeps(groundId(6, 0, 0), 4 * 16);
        late.keeps(groundId(7, 1, 0), 6 * 16 + 4);
        // Over codes: where y does not occur, y is a; where x does not, x is a.
        Scene one = scene(4, 12, 8, make(VAR, 0, 0), make(VAR, 1, 0), make(PK, 4, 0),
            make(SENC, 5, 5), make(AENC, 0, 1));
        for (int vx = 0; vx < 4; vx++) {
            for (int vy = 0; vy < 4; vy++) {
                one.keeps(groundId(6, vx, vy), 6 * 16 + vx);
                one.keeps(groundId(7, vx, vy), 7 * 16 + 4 * vy);
                one.keeps(groundId(8, vx, vy), 8 * 16);
            }
        }
    }

    private static void idRange() {
        scene(2, 8, 8).keeps(groundId(0, 0, 0), 0);
        Scene wide = scene(4, 16, 8, make(VAR, 0, 0), make(VAR, 1, 0));
        for (int h = 6; h < 15; h++) {
            wide = wide.then(make(PK, h == 6 ? 0 : h - 1, 0));
        }
        HornProtocol x = wide.then(make(PAIR, 4, 5)).play();
        int greatest = -1;
        for (int h = 0; h < 16; h++) {
            for (int code = 0; code < 16; code++) {
                int id = x.groundId(h, code % 4, code / 4);
                Due.holds("id " + id + " is in 0..255", id >= 0 && id <= 255);
                greatest = Math.max(greatest, id);
            }
        }
        Due.is("the greatest id", greatest, 255);
    }
}
