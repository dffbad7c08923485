import java.util.List;
import java.util.Set;

/** Promise 4, sentence by sentence. */
public final class RuleEdgesTest extends Edges {
    /** Handles: 0, 1 names; 2 is x; 3 is y; 4 is (x,y); 5 is PK(x); 6 is SENC(a,y); 7 is PK(a). */
    private static final Scene SOME = scene(2, 12, 8, make(VAR, 0, 0), make(VAR, 1, 0),
        make(PAIR, 2, 3), make(PK, 2, 0), make(SENC, 0, 3), make(PK, 0, 0));
    private static final int TERMS = 8;
    private static final Scene FULL = SOME.times(7, rule(NONE, NONE, 1)).then(rule(2, 3, 4));
    private static final Scene DONE = SOME.then(rule(2, NONE, 5), saturate());
    private static final Scene DONE_FULL = FULL.then(saturate());

    public static void main(String[] args) {
        Due.sentence("Conditions in order", RuleEdgesTest::order);
        Due.sentence("Phase READY: ERR_PHASE.", RuleEdgesTest::ready);
        Due.sentence("p1 neither NONE nor a handle: ERR_HANDLE.", RuleEdgesTest::first);
        Due.sentence("p2 neither NONE nor a handle: ERR_HANDLE.", RuleEdgesTest::second);
        Due.sentence("c not a handle: ERR_HANDLE.", RuleEdgesTest::conclusion);
        Due.sentence("A VAR in the tree of c occurs in the tree of no present premise:"
            + " ERR_UNBOUND.", RuleEdgesTest::unbound);
        Due.sentence("With p1 and p2 both NONE, any VAR in c gives this answer.",
            RuleEdgesTest::unboundWithoutPremise);
        Due.sentence("8 rules held: ERR_FULL.", RuleEdgesTest::full);
        Due.sentence("Else the rule is appended whose premise list is p1 (if not NONE) followed by"
            + " p2 (if not NONE), and whose conclusion is c.", RuleEdgesTest::lists);
        Due.sentence("So with p1 = NONE and p2 a handle, p2 is the first and only premise.",
            RuleEdgesTest::onlySecondGiven);
        Due.sentence("Premises and conclusion may be ground", RuleEdgesTest::ground);
        Due.sentence("p1 and p2 may be the same handle.", RuleEdgesTest::sameHandle);
        Due.sentence("The answer is the rule's index, the old count(C_RULES), which grows by one.",
            RuleEdgesTest::index);
        Due.sentence("Nothing else changes.", RuleEdgesTest::nothingElse);
        Due.end();
    }

    /** Each pair of conditions that can hold at once and that answer differently. */
    private static void order() {
        DONE.keeps(rule(TERMS, NONE, 0), ERR_PHASE);
        DONE.keeps(rule(NONE, TERMS, 0), ERR_PHASE);
        DONE.keeps(rule(NONE, NONE, TERMS), ERR_PHASE);
        DONE.keeps(rule(NONE, NONE, 2), ERR_PHASE);
        DONE_FULL.keeps(rule(NONE, NONE, 0), ERR_PHASE);
        DONE_FULL.keeps(rule(MIN, MAX, -1), ERR_PHASE);
        SOME.keeps(rule(TERMS, NONE, 2), ERR_HANDLE);
        SOME.keeps(rule(TERMS, 3, 2), ERR_HANDLE);
        SOME.keeps(rule(NONE, TERMS, 2), ERR_HANDLE);
        SOME.keeps(rule(3, TERMS, 2), ERR_HANDLE);
        SOME.keeps(rule(2, TERMS, 4), ERR_HANDLE);
        FULL.keeps(rule(TERMS, NONE, 0), ERR_HANDLE);
        FULL.keeps(rule(NONE, TERMS, 0), ERR_HANDLE);
        FULL.keeps(rule(NONE, NONE, TERMS), ERR_HANDLE);
        FULL.keeps(rule(NONE, NONE, NONE), ERR_HANDLE);
        FULL.keeps(rule(TERMS, TERMS, 2), ERR_HANDLE);
        FULL.keeps(rule(NONE, NONE, 2), ERR_UNBOUND);
        FULL.keeps(rule(3, 0, 2), ERR_UNBOUND);
        FULL.keeps(rule(2, NONE, 4), ERR_UNBOUND);
    }

    private static void ready() {
        DONE.keeps(rule(NONE, NONE, 0), ERR_PHASE);
        DONE.keeps(rule(2, 3, 4), ERR_PHASE);
        scene(2, 8, 8, saturate()).keeps(rule(NONE, NONE, 0), ERR_PHASE);
    }

    private static void first() {
        for (int p1 : outside(-1, TERMS - 1)) {
            SOME.keeps(rule(p1, NONE, 0), ERR_HANDLE);
            SOME.keeps(rule(p1, 0, 0), ERR_HANDLE);
        }
        SOME.answers(rule(NONE, 0, 0), 0);
        SOME.answers(rule(0, 0, 0), 0);
        SOME.answers(rule(TERMS - 1, 0, 0), 0);
    }

    private static void second() {
        for (int p2 : outside(-1, TERMS - 1)) {
            SOME.keeps(rule(NONE, p2, 0), ERR_HANDLE);
            SOME.keeps(rule(0, p2, 0), ERR_HANDLE);
        }
        SOME.answers(rule(0, NONE, 0), 0);
        SOME.answers(rule(0, 0, 0), 0);
        SOME.answers(rule(0, TERMS - 1, 0), 0);
    }

    private static void conclusion() {
        for (int c : outside(0, TERMS - 1)) {
            SOME.keeps(rule(NONE, NONE, c), ERR_HANDLE);
            SOME.keeps(rule(2, 3, c), ERR_HANDLE);
        }
        SOME.keeps(rule(0, 1, NONE), ERR_HANDLE);
        SOME.answers(rule(NONE, NONE, 0), 0);
        SOME.answers(rule(NONE, NONE, TERMS - 1), 0);
    }

    private static void unbound() {
        int[] ground = {NONE, 0, 1, 7};
        int[] onlyX = {2, 5};
        int[] onlyY = {3, 6};
        for (int g : ground) {
            for (int x : onlyX) {
                for (int y : onlyY) {
                    SOME.keeps(rule(x, g, y), ERR_UNBOUND);
                    SOME.keeps(rule(g, x, y), ERR_UNBOUND);
                    SOME.keeps(rule(y, g, x), ERR_UNBOUND);
                    SOME.keeps(rule(g, y, x), ERR_UNBOUND);
                    SOME.keeps(rule(x, x, y), ERR_UNBOUND);
                    SOME.keeps(rule(y, y, x), ERR_UNBOUND);
                    SOME.answers(rule(x, g, x), 0);
                    SOME.answers(rule(g, y, y), 0);
                    SOME.answers(rule(x, y, 4), 0);
                    SOME.answers(rule(y, x, 4), 0);
                }
            }
            SOME.keeps(rule(2, g, 4), ERR_UNBOUND);
            SOME.keeps(rule(g, 3, 4), ERR_UNBOUND);
            SOME.answers(rule(4, g, 4), 0);
            SOME.answers(rule(g, 4, 4), 0);
            SOME.answers(rule(g, 4, 2), 0);
        }
        SOME.keeps(rule(0, 7, 2), ERR_UNBOUND);
    }

    private static void unboundWithoutPremise() {
        for (int c = 2; c <= 6; c++) {
            SOME.keeps(rule(NONE, NONE, c), ERR_UNBOUND);
        }
        int[] binary = {PAIR, SENC, AENC};
        for (int kind : binary) {
            SOME.then(make(kind, 7, 5)).keeps(rule(NONE, NONE, TERMS), ERR_UNBOUND);
            SOME.then(make(kind, 6, 7)).keeps(rule(NONE, NONE, TERMS), ERR_UNBOUND);
            SOME.then(make(kind, 7, 7)).answers(rule(NONE, NONE, TERMS), 0);
        }
        SOME.answers(rule(NONE, NONE, 0), 0);
        SOME.answers(rule(NONE, NONE, 7), 0);
    }

    private static void full() {
        FULL.keeps(rule(NONE, NONE, 0), ERR_FULL);
        FULL.keeps(rule(NONE, NONE, 1), ERR_FULL);
        FULL.keeps(rule(2, NONE, 2), ERR_FULL);
        FULL.keeps(rule(NONE, 3, 3), ERR_FULL);
        FULL.keeps(rule(2, 3, 4), ERR_FULL);
        SOME.times(7, rule(2, 3, 4)).answers(rule(2, 3, 4), 7);
        SOME.times(8, rule(2, 3, 4)).keeps(rule(2, 3, 4), ERR_FULL);
        scene(4, 16, 32).times(8, rule(0, 1, 2)).keeps(rule(0, 1, 2), ERR_FULL);
    }

    private static void list(Scene built, int r, int first, int second, int c) {
        built.keeps(ruleTerm(r, 0), first);
        built.keeps(ruleTerm(r, 1), second);
        built.keeps(ruleTerm(r, 2), c);
    }

    private static void lists() {
        Scene all = SOME.then(rule(NONE, NONE, 7), rule(5, NONE, 2), rule(NONE, 6, 3),
            rule(6, 5, 4), rule(5, 6, 4));
        list(all, 0, NONE, NONE, 7);
        list(all, 1, 5, NONE, 2);
        list(all, 2, 6, NONE, 3);
        list(all, 3, 6, 5, 4);
        list(all, 4, 5, 6, 4);
    }

    private static void onlySecondGiven() {
        for (int h = 0; h < TERMS; h++) {
            list(SOME.then(rule(NONE, h, 0)), 0, h, NONE, 0);
        }
        // A step gives the premise as b; c is not looked at.
        Scene taken = SOME.then(know(1), rule(NONE, 1, 7), saturate(), step(S_INIT, 0, 0, 0));
        taken.answers(step(S_RULE, 0, 0, -1), 1);
        taken.keeps(step(S_RULE, 0, -1, 0), ERR_STEP);
    }

    private static void ground() {
        list(SOME.then(rule(0, 7, 1)), 0, 0, 7, 1);
        list(SOME.then(rule(7, NONE, 7)), 0, 7, NONE, 7);
        list(SOME.then(rule(2, 0, 1)), 0, 2, 0, 1);
        list(SOME.then(rule(0, 2, 5)), 0, 0, 2, 5);
        SOME.then(know(0), rule(0, 7, 1), saturate()).keeps(rank(1, 0, 0), 2);
    }

    private static void sameHandle() {
        for (int h = 0; h < TERMS; h++) {
            list(SOME.then(rule(h, h, h)), 0, h, h, h);
        }
        SOME.then(know(0), rule(0, 0, 1), saturate()).keeps(rank(1, 0, 0), 1);
    }

    private static void index() {
        HornProtocol x = SOME.play();
        for (int r = 0; r < 8; r++) {
            Due.is("C_RULES", x.count(C_RULES), r);
            Due.is("rule", r % 2 == 0 ? x.rule(2, 3, 4) : x.rule(NONE, NONE, 0), r);
            Due.is("C_RULES after it", x.count(C_RULES), r + 1);
        }
    }

    private static void nothingElse() {
        int[][] rules = {{2, 3, 4}, {0, 1, 7}};
        HornProtocol x = SOME.then(know(7)).play();
        for (int r = 0; r < 8; r++) {
            int[] m = rules[r % 2];
            List<Integer> before = Look.all(x);
            x.rule(m[0], m[1], m[2]);
            Set<String> changed = Look.changed(before, Look.all(x));
            Due.holds("rule changes " + changed, changed.equals(Set.of("count(2)",
                "ruleTerm(" + r + ", 0)", "ruleTerm(" + r + ", 1)", "ruleTerm(" + r + ", 2)")));
        }
    }
}
