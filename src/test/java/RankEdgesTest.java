/** Promise 6, sentence by sentence. */
public final class RankEdgesTest extends Edges {
    /** 0..2 names; 3 is x; 4 is y; 5 is PK(x); 6 is SENC(c,b); 7 is PK(y); 8 is (x,PK(y)). */
    private static final Scene SOME = scene(3, 12, 8, make(VAR, 0, 0), make(VAR, 1, 0),
        make(PK, 3, 0), make(SENC, 2, 1), make(PK, 4, 0), make(PAIR, 3, 7), know(0), know(6));
    private static final int TERMS = 9;
    private static final Scene DONE = SOME.then(saturate());

    public static void main(String[] args) {
        Due.sentence("`rank(h, vx, vy)` examines in order", RankEdgesTest::order);
        Due.sentence("phase BUILD: ERR_PHASE", RankEdgesTest::build);
        Due.sentence("h not a handle: ERR_HANDLE", RankEdgesTest::handle);
        Due.sentence("vx or vy not in 0..N-1: ERR_RANGE", RankEdgesTest::range);
        Due.sentence("(also when h has no VAR)", RankEdgesTest::rangeWithoutVar);
        Due.sentence("Else, for g = the instance of h under code vx + 4*vy,"
            + " it answers the rank of g if g is in K (a value >= 0, and 0 exactly for the"
            + " ground terms of knowledge entries)", RankEdgesTest::rankZero);
        Due.sentence("else UNDERIVABLE (g is secret).", RankEdgesTest::secret);
        Due.sentence("Equal ground terms have equal ranks, whatever handle and assignment produce"
            + " them.", RankEdgesTest::equalTerms);
        Due.sentence("Changes nothing.", RankEdgesTest::changesNothing);
        Due.end();
    }

    /** Each pair of conditions that can hold at once. */
    private static void order() {
        SOME.keeps(rank(TERMS, 0, 0), ERR_PHASE);
        SOME.keeps(rank(-1, 0, 0), ERR_PHASE);
        SOME.keeps(rank(0, 3, 0), ERR_PHASE);
        SOME.keeps(rank(0, 0, -1), ERR_PHASE);
        SOME.keeps(rank(MIN, MIN, MIN), ERR_PHASE);
        DONE.keeps(rank(TERMS, 3, 0), ERR_HANDLE);
        DONE.keeps(rank(TERMS, 0, 3), ERR_HANDLE);
        DONE.keeps(rank(-1, -1, -1), ERR_HANDLE);
        DONE.keeps(rank(MAX, MIN, MAX), ERR_HANDLE);
    }

    private static void build() {
        scene(2, 8, 8).keeps(rank(0, 0, 0), ERR_PHASE);
        for (int h = 0; h < TERMS; h++) {
            SOME.keeps(rank(h, 0, 0), ERR_PHASE);
            SOME.keeps(rank(h, 2, 1), ERR_PHASE);
        }
    }

    private static void handle() {
        for (int h : outside(0, TERMS - 1)) {
            DONE.keeps(rank(h, 0, 0), ERR_HANDLE);
        }
        scene(2, 8, 8, saturate()).keeps(rank(2, 0, 0), ERR_HANDLE);
        scene(2, 8, 8, saturate()).keeps(rank(1, 0, 0), UNDERIVABLE);
    }

    private static void range() {
        for (int odd : outside(0, 2)) {
            DONE.keeps(rank(5, odd, 0), ERR_RANGE);
            DONE.keeps(rank(5, 0, odd), ERR_RANGE);
            DONE.keeps(rank(8, odd, odd), ERR_RANGE);
        }
        // The code of these is that of a good assignment.
        DONE.keeps(rank(8, 4, 0), ERR_RANGE);
        DONE.keeps(rank(8, -4, 1), ERR_RANGE);
        DONE.keeps(rank(8, 8, -1), ERR_RANGE);
        for (int n = 2; n <= 4; n++) {
            Scene done = scene(n, 8, 8, make(VAR, 0, 0), know(0), saturate());
            done.keeps(rank(n, n, 0), ERR_RANGE);
            done.keeps(rank(n, 0, n), ERR_RANGE);
            done.keeps(rank(n, n - 1, n - 1), UNDERIVABLE);
            done.keeps(rank(n, 0, n - 1), 0);
        }
    }

    private static void rangeWithoutVar() {
        int[] ground = {0, 1, 2, 6};
        for (int h : ground) {
            for (int odd : outside(0, 2)) {
                DONE.keeps(rank(h, odd, 0), ERR_RANGE);
                DONE.keeps(rank(h, 0, odd), ERR_RANGE);
            }
        }
        // Only one variable occurs: the other's value is looked at all the same.
        DONE.keeps(rank(5, 0, 3), ERR_RANGE);
        DONE.keeps(rank(7, 3, 0), ERR_RANGE);
    }

    private static void rankZero() {
        for (int vx = 0; vx < 3; vx++) {
            for (int vy = 0; vy < 3; vy++) {
                DONE.keeps(rank(0, vx, vy), 0);
                DONE.keeps(rank(6, vx, vy), 0);
                DONE.keeps(rank(3, vx, vy), vx == 0 ? 0 : UNDERIVABLE);
                DONE.keeps(rank(5, vx, vy), vx == 0 ? 1 : UNDERIVABLE);
                DONE.keeps(rank(7, vx, vy), vy == 0 ? 1 : UNDERIVABLE);
                DONE.keeps(rank(8, vx, vy), vx == 0 && vy == 0 ? 2 : UNDERIVABLE);
            }
        }
        // A rule without premises and a fitting pair give rank 1, never 0.
        scene(2, 8, 8, rule(NONE, NONE, 0), saturate()).keeps(rank(0, 0, 0), 1);
        Scene pair = scene(2, 8, 8, make(PAIR, 0, 1), know(2), saturate());
        pair.keeps(rank(2, 0, 0), 0);
        pair.keeps(rank(0, 0, 0), 1);
        // What is an entry too has rank 0, however else it is reached.
        Scene both = scene(2, 8, 8, make(PAIR, 0, 1), know(2), know(0), rule(NONE, NONE, 0),
            saturate());
        both.keeps(rank(0, 0, 0), 0);
        both.keeps(rank(1, 0, 0), 1);
        // The longest chain that the arena lets be: PK fourteen times.
        Scene chain = scene(2, 16, 8);
        for (int h = 2; h < 16; h++) {
            chain = chain.then(make(PK, h - 1, 0));
        }
        Scene chained = chain.then(know(1), saturate());
        for (int h = 1; h < 16; h++) {
            chained.keeps(rank(h, 1, 1), h - 1);
        }
    }

    private static void secret() {
        for (int n = 2; n <= 4; n++) {
            Scene nothing = scene(n, 8, 8, make(PK, 0, 0), saturate());
            for (int h = 0; h <= n; h++) {
                nothing.keeps(rank(h, 0, 0), UNDERIVABLE);
                nothing.keeps(rank(h, n - 1, n - 1), UNDERIVABLE);
            }
        }
        DONE.keeps(rank(1, 0, 0), UNDERIVABLE);
        DONE.keeps(rank(2, 2, 2), UNDERIVABLE);
        DONE.keeps(rank(3, 1, 0), UNDERIVABLE);
        DONE.keeps(rank(3, 2, 0), UNDERIVABLE);
    }

    private static void equalTerms() {
        // (x,b), (y,x) and (b,b) meet in (b,b); (x,x) is another tree unless x is b.
        Scene met = scene(3, 12, 8, make(VAR, 0, 0), make(VAR, 1, 0), make(PAIR, 3, 1),
            make(PAIR, 4, 3), make(PAIR, 1, 1), make(PAIR, 3, 3), know(7), saturate());
        for (int v = 0; v < 3; v++) {
            met.keeps(rank(7, v, v), 0);
            met.keeps(rank(5, 1, v), 0);
            met.keeps(rank(8, 1, v), 0);
            met.keeps(rank(3, 1, v), 1);
            met.keeps(rank(4, v, 1), 1);
            met.keeps(rank(1, v, v), 1);
        }
        met.keeps(rank(6, 1, 1), 0);
        met.keeps(rank(6, 0, 1), UNDERIVABLE);
        met.keeps(rank(8, 0, 0), UNDERIVABLE);
        HornProtocol x = SOME.then(know(1), saturate()).play();
        int[] rankOfId = new int[256];
        boolean[] seen = new boolean[256];
        for (int h = 0; h < TERMS; h++) {
            for (int code = 0; code < 9; code++) {
                int vx = code % 3;
                int vy = code / 3;
                int id = x.groundId(h, vx, vy);
                int r = x.rank(h, vx, vy);
                Due.is("rank of id " + id, r, seen[id] ? rankOfId[id] : r);
                seen[id] = true;
                rankOfId[id] = r;
            }
        }
    }

    private static void changesNothing() {
        Scene stepped = DONE.then(step(S_INIT, 0, 0, 0), step(S_PK, 0, 0, 0));
        stepped.keeps(rank(5, 0, 2), 1);
        stepped.keeps(rank(8, 0, 0), 2);
        stepped.keeps(rank(8, 2, 2), UNDERIVABLE);
        stepped.keeps(rank(9, 2, 2), ERR_HANDLE);
        stepped.keeps(rank(8, 3, 2), ERR_RANGE);
    }
}
