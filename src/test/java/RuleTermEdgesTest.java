/** Promise 12, sentence by sentence. */
public final class RuleTermEdgesTest extends Edges {
    private static final int[][] GIVEN = {{NONE, NONE, 3}, {5, NONE, 4}, {NONE, 5, 2}, {5, 4, 5},
        {1, 1, 1}, {0, 3, 2}, {NONE, 0, 0}, {4, 5, 4}};
    private static final int[][] HELD = {{NONE, NONE, 3}, {5, NONE, 4}, {5, NONE, 2}, {5, 4, 5},
        {1, 1, 1}, {0, 3, 2}, {0, NONE, 0}, {4, 5, 4}};

    public static void main(String[] args) {
        Due.sentence("`ruleTerm(r, which)`: r not in 0..count(C_RULES)-1: ERR_RANGE",
            RuleTermEdgesTest::rules);
        Due.sentence("which not in 0..2: ERR_RANGE.", RuleTermEdgesTest::which);
        Due.sentence("For which 0 or 1: the handle of the first or second premise of the list",
            RuleTermEdgesTest::premises);
        Due.sentence("or NONE if the list is shorter.", RuleTermEdgesTest::shorter);
        Due.sentence("For which 2: the handle of the conclusion.",
            RuleTermEdgesTest::conclusion);
        Due.sentence("Any phase; changes nothing.", RuleTermEdgesTest::anyPhase);
        Due.end();
    }

    /** So many rules of those above; 4 is x, 5 is PK(x). */
    private static Scene held(int rules) {
        Scene held = scene(4, 16, 8, make(VAR, 0, 0), make(PK, 4, 0), know(0));
        for (int r = 0; r < rules; r++) {
            held = held.then(rule(GIVEN[r][0], GIVEN[r][1], GIVEN[r][2]));
        }
        return held;
    }

    private static void rules() {
        for (int rules = 0; rules <= 8; rules++) {
            for (int r : outside(0, rules - 1)) {
                for (int which = -1; which <= 3; which++) {
                    held(rules).keeps(ruleTerm(r, which), ERR_RANGE);
                }
            }
            held(rules).keeps(ruleTerm(8, 2), ERR_RANGE);
        }
        // A refused rule is no rule.
        HornProtocol x = held(2).play();
        Due.is("a rule with an unbound VAR", x.rule(NONE, NONE, 4), ERR_UNBOUND);
        Due.is("ruleTerm(2, 2)", x.ruleTerm(2, 2), ERR_RANGE);
    }

    private static void which() {
        for (int r = 0; r < 8; r++) {
            for (int which : outside(0, 2)) {
                held(8).keeps(ruleTerm(r, which), ERR_RANGE);
            }
        }
    }

    private static void premises() {
        for (int r = 0; r < 8; r++) {
            if (HELD[r][0] != NONE) {
                held(8).keeps(ruleTerm(r, 0), HELD[r][0]);
            }
            if (HELD[r][1] != NONE) {
                held(8).keeps(ruleTerm(r, 1), HELD[r][1]);
            }
        }
    }

    private static void shorter() {
        int[] one = {1, 2, 6};
        for (int r : one) {
            held(8).keeps(ruleTerm(r, 1), NONE);
        }
        held(8).keeps(ruleTerm(0, 0), NONE);
        held(8).keeps(ruleTerm(0, 1), NONE);
    }

    private static void conclusion() {
        for (int rules = 1; rules <= 8; rules++) {
            for (int r = 0; r < rules; r++) {
                held(rules).keeps(ruleTerm(r, 2), HELD[r][2]);
            }
        }
    }

    private static void anyPhase() {
        Scene done = held(8).then(saturate());
        Scene[] phases = {held(8), done, done.times(8, step(S_RULE, 0, 0, 0))};
        for (Scene phase : phases) {
            for (int r = 0; r < 8; r++) {
                for (int which = 0; which < 3; which++) {
                    phase.keeps(ruleTerm(r, which), HELD[r][which]);
                }
                phase.keeps(ruleTerm(r, 3), ERR_RANGE);
            }
            phase.keeps(ruleTerm(8, 0), ERR_RANGE);
        }
        // Here there is room for rules that a look could take away.
        for (int r = -1; r < 4; r++) {
            for (int which = 0; which < 3; which++) {
                held(3).keeps(ruleTerm(r, which), r >= 0 && r < 3 ? HELD[r][which] : ERR_RANGE);
            }
        }
    }
}
