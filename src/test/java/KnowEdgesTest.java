import java.util.List;
import java.util.Set;

/** Promise 3, sentence by sentence. */
public final class KnowEdgesTest extends Edges {
    /** Handles: 0, 1 names; 2 is x; 3 is y; 4 is PK(y); 5 is (a,PK(y)); 6 is (a,b); 7 is PK(b). */
    private static final Scene SOME = scene(2, 12, 8, make(VAR, 0, 0), make(VAR, 1, 0),
        make(PK, 3, 0), make(PAIR, 0, 4), make(PAIR, 0, 1), make(PK, 1, 0));
    private static final int TERMS = 8;
    private static final Scene FULL = SOME.times(7, know(6)).then(know(7));
    private static final Scene DONE = SOME.then(know(0), saturate());
    private static final Scene DONE_FULL = FULL.then(saturate());

    public static void main(String[] args) {
        Due.sentence("Conditions in order", KnowEdgesTest::order);
        Due.sentence("Phase READY: ERR_PHASE.", KnowEdgesTest::ready);
        Due.sentence("h not a handle: ERR_HANDLE.", KnowEdgesTest::handle);
        Due.sentence("The tree of h contains a VAR: ERR_NOT_GROUND.", KnowEdgesTest::notGround);
        Due.sentence("8 entries held: ERR_FULL.", KnowEdgesTest::full);
        Due.sentence("Else h is appended as the next entry", KnowEdgesTest::appended);
        Due.sentence("(equal entries are allowed, so the same handle may appear several times)",
            KnowEdgesTest::equalEntries);
        Due.sentence("its index, the old count(C_KNOW), is answered; count(C_KNOW) grows by one.",
            KnowEdgesTest::index);
        Due.sentence("Nothing else changes.", KnowEdgesTest::nothingElse);
        Due.end();
    }

    /** Each pair of conditions that can hold at once. */
    private static void order() {
        DONE.keeps(know(TERMS), ERR_PHASE);
        DONE.keeps(know(-1), ERR_PHASE);
        DONE.keeps(know(2), ERR_PHASE);
        DONE_FULL.keeps(know(0), ERR_PHASE);
        DONE_FULL.keeps(know(2), ERR_PHASE);
        DONE_FULL.keeps(know(TERMS), ERR_PHASE);
        FULL.keeps(know(TERMS), ERR_HANDLE);
        FULL.keeps(know(-1), ERR_HANDLE);
        FULL.keeps(know(2), ERR_NOT_GROUND);
        FULL.keeps(know(5), ERR_NOT_GROUND);
    }

    private static void ready() {
        DONE.keeps(know(0), ERR_PHASE);
        DONE.keeps(know(6), ERR_PHASE);
        scene(2, 8, 8, saturate()).keeps(know(0), ERR_PHASE);
        DONE.times(8, step(S_INIT, 0, 0, 0)).keeps(know(1), ERR_PHASE);
    }

    private static void handle() {
        for (int h : outside(0, TERMS - 1)) {
            SOME.keeps(know(h), ERR_HANDLE);
        }
        scene(2, 8, 8).keeps(know(2), ERR_HANDLE);
        scene(2, 8, 8).answers(know(1), 0);
        SOME.answers(know(TERMS - 1), 0);
    }

    private static void notGround() {
        for (int h = 2; h <= 5; h++) {
            SOME.keeps(know(h), ERR_NOT_GROUND);
        }
        int[] binary = {PAIR, SENC, AENC};
        for (int kind : binary) {
            for (int open = 2; open <= 5; open++) {
                SOME.then(make(kind, 0, open)).keeps(know(open == 4 && kind == PAIR ? 5 : TERMS),
                    ERR_NOT_GROUND);
                SOME.then(make(kind, open, 0)).keeps(know(TERMS), ERR_NOT_GROUND);
            }
            SOME.then(make(kind, 6, 7)).answers(know(TERMS), 0);
        }
        SOME.then(make(PK, 5, 0)).keeps(know(TERMS), ERR_NOT_GROUND);
        // The VAR lies as deep as the arena lets it.
        Scene deep = scene(2, 16, 8, make(VAR, 1, 0));
        for (int h = 3; h < 16; h++) {
            deep = deep.then(make(PK, h - 1, 0));
            deep.keeps(know(h), ERR_NOT_GROUND);
        }
    }

    private static void full() {
        for (int h = 0; h < TERMS; h++) {
            if (h < 2 || h > 5) {
                FULL.keeps(know(h), ERR_FULL);
            }
        }
        scene(2, 8, 8).times(8, know(0)).keeps(know(0), ERR_FULL);
        scene(2, 8, 8).times(8, know(0)).keeps(know(1), ERR_FULL);
        scene(4, 16, 32).times(8, know(3)).keeps(know(3), ERR_FULL);
        SOME.times(7, know(6)).answers(know(6), 7);
    }

    private static void appended() {
        int[] order = {7, 0, 6, 1, 1, 7, 0, 6};
        HornProtocol x = SOME.play();
        for (int i = 0; i < 8; i++) {
            x.know(order[i]);
            for (int k = 0; k < 9; k++) {
                Due.is("entry(" + k + ") of " + (i + 1), x.entry(k), k <= i ? order[k] : ERR_RANGE);
            }
        }
    }

    private static void equalEntries() {
        Scene same = SOME.times(3, know(7)).then(know(0)).times(4, know(7));
        for (int i = 0; i < 8; i++) {
            same.keeps(entry(i), i == 3 ? 0 : 7);
        }
        same.keeps(count(C_KNOW), 8);
        // a, PK(a), PK(b), (a,PK(a)) and (a,PK(b)): an entry that is there twice counts once.
        same.answers(saturate(), 5);
        int pkB = 4 * 16 + 4;
        for (int i = 0; i < 8; i++) {
            same.then(saturate(), step(S_INIT, i, 0, 0)).keeps(stepFact(0), i == 3 ? 0 : pkB);
        }
    }

    private static void index() {
        HornProtocol x = SOME.play();
        for (int i = 0; i < 8; i++) {
            Due.is("C_KNOW", x.count(C_KNOW), i);
            Due.is("know", x.know(i % 2 == 0 ? 6 : 1), i);
            Due.is("C_KNOW after it", x.count(C_KNOW), i + 1);
        }
    }

    private static void nothingElse() {
        HornProtocol x = SOME.then(rule(2, 3, 4)).play();
        for (int i = 0; i < 8; i++) {
            List<Integer> before = Look.all(x);
            x.know(6 + i % 2);
            Set<String> changed = Look.changed(before, Look.all(x));
            Due.holds("know changes " + changed,
                changed.equals(Set.of("count(1)", "entry(" + i + ")")));
        }
    }
}
