/** Promise 10, sentence by sentence. */
public final class KindAndChildEdgesTest extends Edges {
    /** Handles: 0..2 names; 3 is y; 4 is x; 5 is (c,x); 6 SENC((c,x),b); 7 AENC(6,y); 8 PK(7). */
    private static final Scene BUILT = scene(3, 12, 8, make(VAR, 1, 0), make(VAR, 0, 0),
        make(PAIR, 2, 4), make(SENC, 5, 1), make(AENC, 6, 3), make(PK, 7, 0), know(0));
    private static final int[][] FIELDS = {{NAME, 0, -1}, {NAME, 1, -1}, {NAME, 2, -1},
        {VAR, 1, -1}, {VAR, 0, -1}, {PAIR, 2, 4}, {SENC, 5, 1}, {AENC, 6, 3}, {PK, 7, -1}};
    private static final Scene DONE = BUILT.then(saturate());
    private static final Scene[] PHASES = {BUILT, DONE, DONE.times(8, step(S_INIT, 0, 0, 0))};

    public static void main(String[] args) {
        Due.sentence("`kindOf(h)`: h a handle: its kind (NAME, VAR, PAIR, SENC, AENC or PK)",
            KindAndChildEdgesTest::kinds);
        Due.sentence("else ERR_HANDLE.", KindAndChildEdgesTest::noHandle);
        Due.sentence("h not a handle: ERR_HANDLE (whatever which is)",
            KindAndChildEdgesTest::childOfNoHandle);
        Due.sentence("which not 0 or 1: ERR_RANGE", KindAndChildEdgesTest::which);
        Due.sentence("else the left field (which 0) or right field (which 1) of h, as listed under"
            + " Terms: the name index for NAME, 0 or 1 for VAR, child handles for PAIR, SENC, AENC,"
            + " the private part for PK", KindAndChildEdgesTest::fields);
        Due.sentence("and -1 as the right field of NAME, VAR and PK.",
            KindAndChildEdgesTest::noRightField);
        Due.sentence("Both work in any phase and change nothing.",
            KindAndChildEdgesTest::anyPhase);
        Due.end();
    }

    private static void kinds() {
        for (int h = 0; h < FIELDS.length; h++) {
            BUILT.keeps(kindOf(h), FIELDS[h][0]);
        }
    }

    private static void noHandle() {
        for (int h : outside(0, FIELDS.length - 1)) {
            BUILT.keeps(kindOf(h), ERR_HANDLE);
            DONE.keeps(kindOf(h), ERR_HANDLE);
        }
        for (int n = 2; n <= 4; n++) {
            scene(n, 8, 8).keeps(kindOf(n - 1), NAME);
            scene(n, 8, 8).keeps(kindOf(n), ERR_HANDLE);
        }
        // The full arena: the last handle, and the one past it.
        Scene full = scene(2, 16, 8);
        for (int h = 2; h < 16; h++) {
            full = full.then(make(PK, h - 1, 0));
        }
        full.keeps(kindOf(15), PK);
        full.keeps(kindOf(16), ERR_HANDLE);
    }

    private static void childOfNoHandle() {
        for (int h : outside(0, FIELDS.length - 1)) {
            BUILT.keeps(child(h, 0), ERR_HANDLE);
            BUILT.keeps(child(h, 1), ERR_HANDLE);
            BUILT.keeps(child(h, 2), ERR_HANDLE);
            BUILT.keeps(child(h, -1), ERR_HANDLE);
        }
        for (int which : outside(0, 1)) {
            BUILT.keeps(child(FIELDS.length, which), ERR_HANDLE);
            BUILT.keeps(child(-1, which), ERR_HANDLE);
            DONE.keeps(child(MAX, which), ERR_HANDLE);
        }
    }

    private static void which() {
        for (int h = 0; h < FIELDS.length; h++) {
            for (int which : outside(0, 1)) {
                BUILT.keeps(child(h, which), ERR_RANGE);
            }
        }
    }

    private static void fields() {
        for (int h = 0; h < FIELDS.length; h++) {
            BUILT.keeps(child(h, 0), FIELDS[h][1]);
            if (h >= 5 && h <= 7) {
                BUILT.keeps(child(h, 1), FIELDS[h][2]);
            }
        }
        for (int i = 0; i < 4; i++) {
            scene(4, 8, 8).keeps(child(i, 0), i);
        }
        // A pair of two equal parts, and parts in falling order.
        scene(2, 8, 8, make(PAIR, 1, 1)).keeps(child(2, 1), 1);
        scene(2, 8, 8, make(PAIR, 1, 0)).keeps(child(2, 0), 1);
        scene(2, 8, 8, make(PAIR, 1, 0)).keeps(child(2, 1), 0);
    }

    private static void noRightField() {
        int[] alone = {0, 1, 2, 3, 4, 8};
        for (int h : alone) {
            BUILT.keeps(child(h, 1), -1);
        }
        // Whatever b was given with VAR and PK.
        for (int b : Due.ODD_INTS) {
            scene(2, 8, 8, make(VAR, 0, b)).keeps(child(2, 1), -1);
            scene(2, 8, 8, make(PK, 0, b)).keeps(child(2, 1), -1);
        }
        scene(2, 8, 8, make(VAR, 0, 1)).keeps(child(2, 1), -1);
        scene(2, 8, 8, make(PK, 0, 1)).keeps(child(2, 1), -1);
    }

    private static void anyPhase() {
        for (Scene phase : PHASES) {
            for (int h = 0; h < FIELDS.length; h++) {
                phase.keeps(kindOf(h), FIELDS[h][0]);
                phase.keeps(child(h, 0), FIELDS[h][1]);
                phase.keeps(child(h, 1), FIELDS[h][2]);
                phase.keeps(child(h, 2), ERR_RANGE);
            }
            phase.keeps(kindOf(FIELDS.length), ERR_HANDLE);
            phase.keeps(child(FIELDS.length, 0), ERR_HANDLE);
        }
    }
}
