/** The section "Terms, knowledge and rank" where it says what K is and what a step is. */
public final class KnowledgeEdgesTest extends Edges {
    private static final Scene PLAIN = scene(4, 16, 16);

    public static void main(String[] args) {
        Due.sentence("Knowledge entries (at most 8) are ground terms the attacker has at the"
            + " start.", KnowledgeEdgesTest::entries);
        Due.sentence("A rule (at most 8) has a list of 0, 1 or 2 premise terms and a conclusion"
            + " term; every variable of the conclusion occurs in a premise.",
            KnowledgeEdgesTest::rules);
        Due.sentence("An instance of a rule uses one assignment for all its terms: variables stand"
            + " for names only.", KnowledgeEdgesTest::oneAssignment);
        Due.sentence("K(0) is the set of ground terms of the knowledge entries.",
            KnowledgeEdgesTest::start);
        Due.sentence("K(i+1) is K(i) together with every ground term given by one of",
            KnowledgeEdgesTest::nothingIsLost);
        Due.sentence("C1: PAIR(u,v) if u and v are in K(i) and PAIR(u,v) is in U.",
            () -> composed(PAIR));
        Due.sentence("C2: SENC(u,v) if u and v are in K(i) and SENC(u,v) is in U.",
            () -> composed(SENC));
        Due.sentence("C3: AENC(u,v) if u and v are in K(i) and AENC(u,v) is in U.",
            () -> composed(AENC));
        Due.sentence("C4: PK(u) if u is in K(i) and PK(u) is in U.", KnowledgeEdgesTest::keyMade);
        Due.sentence("D1: u and v if PAIR(u,v) is in K(i).", KnowledgeEdgesTest::split);
        Due.sentence("D2: u if SENC(u,v) and v are in K(i).", KnowledgeEdgesTest::symmetric);
        Due.sentence("D3: u if AENC(u,PK(v)) and v are in K(i).", KnowledgeEdgesTest::publicKey);
        Due.sentence("R: the instance of the conclusion of a rule under an assignment s, if the"
            + " instance under s of every premise of that rule is in K(i).",
            KnowledgeEdgesTest::ruleRounds);
        Due.sentence("K is the union of all K(i); K lies in U.", KnowledgeEdgesTest::withinU);
        Due.sentence("The rank of g in K is the least i with g in K(i).",
            KnowledgeEdgesTest::leastRank);
        Due.sentence("A ground term not in K is secret.", KnowledgeEdgesTest::secret);
        Due.sentence("A name is known only if it is obtained by the above (for example as a"
            + " knowledge entry).", KnowledgeEdgesTest::names);
        Due.sentence("A new object is in phase BUILD, where `make`, `know` and `rule` work.",
            KnowledgeEdgesTest::build);
        Due.sentence("`saturate()` moves it to phase READY for good, where `rank` and `step`"
            + " work.", KnowledgeEdgesTest::ready);
        Due.sentence("In phase READY a derivation is replayed one step per `step` call, at most P"
            + " steps.", KnowledgeEdgesTest::steps);
        Due.sentence("Step j has a fact f(j), a ground term of U.", KnowledgeEdgesTest::facts);
        Due.sentence("A valid step is j with 0 <= j < count(C_STEPS).",
            KnowledgeEdgesTest::validStep);
        Due.sentence("Acceptance of a step depends only on the arena, the knowledge entries, the"
            + " rules and the earlier steps.", KnowledgeEdgesTest::acceptance);
        Due.end();
    }

    /** The ranks of the handles 0, 1, 2, ... under the assignment of a to both variables. */
    private static void ranks(Scene built, int... due) {
        Scene done = built.then(saturate());
        for (int h = 0; h < due.length; h++) {
            done.answers(rank(h, 0, 0), due[h]);
        }
    }

    private static void entries() {
        ranks(PLAIN.times(8, know(2)), -1, -1, 0, -1);
        PLAIN.times(8, know(2)).keeps(know(3), ERR_FULL);
        ranks(PLAIN.times(7, know(2)).then(know(3)), -1, -1, 0, 0);
        PLAIN.then(make(VAR, 0, 0)).keeps(know(4), ERR_NOT_GROUND);
    }

    private static void rules() {
        Scene vars = PLAIN.then(make(VAR, 0, 0), make(VAR, 1, 0), make(PAIR, 4, 5));
        vars.answers(rule(NONE, NONE, 0), 0);
        vars.answers(rule(4, NONE, 4), 0);
        vars.answers(rule(4, 5, 6), 0);
        vars.keeps(rule(NONE, NONE, 4), ERR_UNBOUND);
        vars.keeps(rule(4, NONE, 6), ERR_UNBOUND);
        vars.times(8, rule(4, 5, 6)).keeps(rule(4, 5, 6), ERR_FULL);
        // The eighth rule works as the others do.
        ranks(PLAIN.times(7, rule(NONE, NONE, 1)).then(rule(NONE, NONE, 3)), -1, 1, -1, 1);
    }

    private static void oneAssignment() {
        // PK(x) and x give c: PK(a) and b do not, only PK(b) and b in the next round.
        Scene keys = PLAIN.then(make(VAR, 0, 0), make(PK, 4, 0), make(PK, 0, 0), know(6),
            rule(5, 4, 2));
        ranks(keys.then(know(1)), -1, 0, 2, -1);
        ranks(keys, -1, -1, -1, -1);
        // SENC(x,d) and x give c: SENC(a,d) and b do not.
        Scene fixed = PLAIN.then(make(VAR, 0, 0), make(SENC, 4, 3), make(SENC, 0, 3), know(6),
            know(1), rule(5, 4, 2));
        ranks(fixed, -1, 0, -1, -1);
        ranks(fixed.then(know(0)), 0, 0, 1, -1);
        // x gives c, but the only thing known is PK(a), which is no name.
        Scene noName = PLAIN.then(make(VAR, 0, 0), make(PK, 0, 0), know(5), rule(4, NONE, 2));
        ranks(noName, -1, -1, -1, -1);
        noName.then(saturate(), step(S_INIT, 0, 0, 0)).keeps(step(S_RULE, 0, 0, 0), ERR_INVALID);
        ranks(noName.then(know(3)), -1, -1, 1, 0);
    }

    private static void start() {
        Scene all = PLAIN.then(make(PK, 0, 0), make(SENC, 1, 2), make(VAR, 0, 0), make(PK, 6, 0));
        ranks(all, -1, -1, -1, -1, -1, -1);
        ranks(all.then(know(5), know(3), know(4), know(5)), -1, -1, -1, 0, 0, 0);
        // PK(x) with x = a is the entry's ground term; with x = d it is made of d.
        Scene done = all.then(know(4), know(3), saturate());
        done.keeps(rank(7, 0, 0), 0);
        done.keeps(rank(7, 3, 0), 1);
        done.keeps(rank(7, 1, 0), UNDERIVABLE);
    }

    /** What K(0) holds is still there many rounds later, and all ways work in one round. */
    private static void nothingIsLost() {
        Scene late = PLAIN.then(make(PK, 0, 0), make(PK, 4, 0), make(PK, 5, 0), make(PAIR, 6, 1),
            know(0), know(1));
        ranks(late, 0, 0, -1, -1, 1, 2, 3, 4);
        late.then(saturate()).keeps(count(C_KNOWN), 6);
        Scene every = scene(4, 16, 16, make(PAIR, 0, 1), make(PK, 0, 0), make(SENC, 2, 0),
            make(AENC, 3, 5), make(SENC, 0, 0), make(AENC, 0, 0), make(PAIR, 0, 0),
            make(PAIR, 5, 5), know(0), know(4), know(6), know(7), rule(0, NONE, 11));
        ranks(every, 0, 1, 1, 1, 0, 1, 0, 0, 1, 1, 1, 1);
    }

    /** Handle 4 is kind(a,b), 5 is kind(b,b), 6 is kind(4,a). */
    private static void composed(int kind) {
        Scene terms = PLAIN.then(make(kind, 0, 1), make(kind, 1, 1), make(kind, 4, 0));
        ranks(terms.then(know(0), know(1)), 0, 0, -1, -1, 1, 1, 2);
        ranks(terms.then(know(0)), 0, -1, -1, -1, -1, -1, -1);
        ranks(terms.then(know(1)), -1, 0, -1, -1, -1, 1, -1);
        // kind(b,a) is not in U: neither K nor a step has it.
        Scene done = terms.then(know(0), know(1), saturate());
        done.keeps(count(C_KNOWN), 5);
        done.then(step(S_INIT, 0, 0, 0), step(S_INIT, 1, 0, 0))
            .keeps(step(kind - PAIR + S_PAIR, 1, 0, 0), ERR_INVALID);
    }

    private static void keyMade() {
        Scene terms = PLAIN.then(make(PK, 1, 0), make(PK, 4, 0), make(PK, 2, 0));
        ranks(terms.then(know(1)), -1, 0, -1, -1, 1, 2, -1);
        // PK(u) gives no u back.
        ranks(terms.then(know(4)), -1, -1, -1, -1, 0, 1, -1);
        terms.then(know(1), saturate()).keeps(count(C_KNOWN), 3);
        terms.then(know(0), saturate(), step(S_INIT, 0, 0, 0))
            .keeps(step(S_PK, 0, 0, 0), ERR_INVALID);
    }

    private static void split() {
        Scene terms = PLAIN.then(make(PAIR, 0, 1), make(PAIR, 2, 4), make(PAIR, 3, 3));
        ranks(terms.then(know(5)), 2, 2, 1, -1, 1, 0, -1);
        ranks(terms.then(know(6)), -1, -1, -1, 1, -1, -1, 0);
        ranks(terms.then(know(4)), 1, 1, -1, -1, 0, -1, -1);
    }

    private static void symmetric() {
        Scene terms = PLAIN.then(make(SENC, 0, 1), make(SENC, 2, 4), make(PK, 1, 0),
            make(SENC, 3, 6));
        ranks(terms.then(know(4)), -1, -1, -1, -1, 0);
        ranks(terms.then(know(4), know(1)), 1, 0, -1, -1, 0);
        // The plaintext gives no key.
        ranks(terms.then(know(4), know(0)), 0, -1, -1, -1, 0);
        // A key that is an encryption itself, and one that is a PK.
        ranks(terms.then(know(5), know(4)), -1, -1, 1, -1, 0, 0);
        ranks(terms.then(know(7), know(6)), -1, -1, -1, 1, -1, -1, 0, 0);
        ranks(terms.then(know(7), know(1)), -1, 0, -1, 2, -1, -1, 1, 0);
        // Neither the key nor its private part is known.
        ranks(terms.then(know(7)), -1, -1, -1, -1, -1, -1, -1, 0);
    }

    private static void publicKey() {
        Scene terms = PLAIN.then(make(PK, 1, 0), make(AENC, 0, 4), make(AENC, 2, 1),
            make(PAIR, 1, 1), make(AENC, 3, 7));
        ranks(terms.then(know(5)), -1, -1, -1, -1, -1, 0);
        ranks(terms.then(know(5), know(1)), 1, 0, -1, -1, 1, 0);
        // PK(v) alone does not open it.
        ranks(terms.then(know(5), know(4)), -1, -1, -1, -1, 0, 0);
        // AENC(u,v) with a v that is no PK is never opened.
        ranks(terms.then(know(6), know(1), know(4)), -1, 0, -1, -1, 0, -1, 0);
        ranks(terms.then(know(8), know(1), know(7)), -1, 0, -1, -1, 1, -1, -1, 0, 0);
        // Not by any name, nor by all of them.
        ranks(terms.then(know(6), know(0), know(1), know(3)), 0, 0, -1, 0, 1, 2, 0);
        ranks(terms.then(know(8), know(0), know(1), know(2)), 0, 0, 0, -1, 1, 2, 1, 1, 0);
        // PK(PK(b)) is opened by PK(b).
        Scene twice = PLAIN.then(make(PK, 1, 0), make(PK, 4, 0), make(AENC, 0, 5), know(6));
        ranks(twice, -1, -1, -1, -1, -1, -1, 0);
        ranks(twice.then(know(4)), 1, -1, -1, -1, 0, 1, 0);
        ranks(twice.then(know(1)), 2, 0, -1, -1, 1, 2, 0);
    }

    private static void ruleRounds() {
        // Each rule needs what the one before it gave, though it stands before it.
        Scene chain = PLAIN.then(rule(2, NONE, 3), rule(1, NONE, 2), rule(0, NONE, 1),
            rule(NONE, NONE, 0));
        ranks(chain, 1, 2, 3, 4);
        ranks(PLAIN.then(rule(0, 1, 2), know(0)), 0, -1, -1, -1);
        ranks(PLAIN.then(rule(0, 1, 2), know(1)), -1, 0, -1, -1);
        ranks(PLAIN.then(rule(0, 1, 2), know(1), know(0)), 0, 0, 1, -1);
        // In the order of the rules too: one round gives one link alone.
        ranks(PLAIN.then(rule(NONE, NONE, 0), rule(0, NONE, 1), rule(1, NONE, 2),
            rule(2, NONE, 3)), 1, 2, 3, 4);
        for (int n = 2; n <= 4; n++) {
            everyAssignment(n);
        }
    }

    /** (x,y) gives SENC(y,PK(PK(PK(x)))), two rounds before that could be made. */
    private static void everyAssignment(int n) {
        Scene built = scene(n, 16, 8, make(VAR, 0, 0), make(VAR, 1, 0), make(PAIR, n, n + 1),
            make(PK, n, 0), make(PK, n + 3, 0), make(PK, n + 4, 0), make(SENC, n + 1, n + 5));
        for (int i = 0; i < n; i++) {
            built = built.then(know(i));
        }
        Scene alone = built.then(saturate());
        Scene ruled = built.then(rule(n + 2, NONE, n + 6), saturate());
        for (int vx = 0; vx < n; vx++) {
            for (int vy = 0; vy < n; vy++) {
                alone.answers(rank(n + 6, vx, vy), 4);
                ruled.answers(rank(n + 6, vx, vy), 2);
            }
        }
    }

    private static void withinU() {
        PLAIN.then(saturate()).keeps(count(C_KNOWN), 0);
        Scene all = PLAIN.then(make(PAIR, 0, 1), know(0), know(1), know(2), know(3), saturate());
        all.keeps(count(C_KNOWN), 5);
        all.keeps(count(C_UNIVERSE), 5);
        // The union has what the last round adds too: PK twelve times over d.
        Scene chain = PLAIN;
        for (int h = 4; h < 16; h++) {
            chain = chain.then(make(PK, h - 1, 0));
        }
        chain.then(know(3), saturate()).keeps(count(C_KNOWN), 13);
        chain.then(know(3), saturate()).keeps(rank(15, 0, 0), 12);
    }

    private static void leastRank() {
        // d by a long way and by a short one, the rules in either order.
        Call[] shortWay = {rule(0, NONE, 3)};
        Call[] longWay = {rule(0, NONE, 1), rule(1, NONE, 2), rule(2, NONE, 3)};
        ranks(PLAIN.then(know(0)).then(longWay).then(shortWay), 0, 1, 2, 1);
        ranks(PLAIN.then(know(0)).then(shortWay).then(longWay), 0, 1, 2, 1);
        ranks(PLAIN.then(know(0)).then(longWay), 0, 1, 2, 3);
        // A term that can be made, taken out of a pair or answered by a rule.
        Scene many = PLAIN.then(make(PK, 0, 0), make(PK, 4, 0), make(PAIR, 5, 1));
        ranks(many.then(know(0)), 0, -1, -1, -1, 1, 2, -1);
        ranks(many.then(know(0), know(6)), 0, 1, -1, -1, 1, 1, 0);
        ranks(many.then(know(0), know(6), know(5)), 0, 1, -1, -1, 1, 0, 0);
        ranks(many.then(know(0), rule(4, NONE, 1), rule(1, NONE, 5)), 0, 2, -1, -1, 1, 2, 3);
    }

    private static void secret() {
        Scene done = PLAIN.then(make(SENC, 0, 1), make(AENC, 2, 1), know(4), know(5), saturate());
        for (int h = 0; h < 4; h++) {
            done.keeps(rank(h, 3, 3), UNDERIVABLE);
        }
        done.keeps(count(C_KNOWN), 2);
    }

    private static void names() {
        ranks(PLAIN, -1, -1, -1, -1);
        ranks(PLAIN.then(know(3)), -1, -1, -1, 0);
        ranks(PLAIN.then(make(PK, 1, 0), know(4)), -1, -1, -1, -1, 0);
        ranks(PLAIN.then(rule(NONE, NONE, 2)), -1, -1, 1, -1);
        // A variable in the arena, or in a premise, makes no name known.
        ranks(PLAIN.then(make(VAR, 0, 0), rule(4, NONE, 4), know(1)), -1, 0, -1, -1, -1);
    }

    private static void build() {
        PLAIN.keeps(count(C_PHASE), BUILD);
        PLAIN.answers(make(PK, 0, 0), 4);
        PLAIN.answers(know(0), 0);
        PLAIN.answers(rule(NONE, NONE, 0), 0);
        PLAIN.keeps(rank(0, 0, 0), ERR_PHASE);
        PLAIN.then(know(0)).keeps(step(S_INIT, 0, 0, 0), ERR_PHASE);
    }

    private static void ready() {
        Scene done = PLAIN.then(know(0), saturate());
        done.keeps(count(C_PHASE), READY);
        done.keeps(rank(0, 0, 0), 0);
        done.answers(step(S_INIT, 0, 0, 0), 0);
        done.keeps(make(PK, 0, 0), ERR_PHASE);
        done.keeps(know(0), ERR_PHASE);
        done.keeps(rule(NONE, NONE, 0), ERR_PHASE);
        done.keeps(saturate(), ERR_PHASE);
        done.times(16, step(S_INIT, 0, 0, 0)).keeps(count(C_PHASE), READY);
    }

    private static void steps() {
        Scene done = PLAIN.then(know(0), saturate());
        for (int j = 0; j < 16; j++) {
            done.times(j, step(S_INIT, 0, 0, 0)).answers(step(S_INIT, 0, 0, 0), j);
        }
        done.times(16, step(S_INIT, 0, 0, 0)).keeps(step(S_INIT, 0, 0, 0), ERR_FULL);
    }

    private static void facts() {
        Scene done = PLAIN.then(make(VAR, 0, 0), make(PK, 4, 0), make(PK, 2, 0), know(6), know(2),
            saturate(), step(S_INIT, 0, 0, 0), step(S_INIT, 1, 0, 0), step(S_PK, 1, 0, 0));
        // PK(c) is the instance of PK(x), the earlier handle, whichever way it is derived.
        done.keeps(stepFact(0), 5 * 16 + 2);
        done.keeps(stepFact(1), 32);
        done.keeps(stepFact(2), 5 * 16 + 2);
        // PK(PK(c)) is not in U: there is no step with that fact.
        done.keeps(step(S_PK, 2, 0, 0), ERR_INVALID);
    }

    private static void validStep() {
        Scene done = PLAIN.then(make(PAIR, 0, 1), know(4), saturate());
        for (int steps = 0; steps < 16; steps++) {
            Scene held = done.times(steps, step(S_INIT, 0, 0, 0));
            held.keeps(step(S_FST, -1, 0, 0), ERR_STEP);
            held.keeps(step(S_FST, steps, 0, 0), ERR_STEP);
            held.keeps(stepFact(-1), ERR_STEP);
            held.keeps(stepFact(steps), ERR_STEP);
            if (steps > 0) {
                held.answers(step(S_FST, steps - 1, 0, 0), steps);
                held.keeps(stepFact(steps - 1), 64);
                held.answers(step(S_FST, 0, 0, 0), steps);
            }
        }
    }

    private static void acceptance() {
        Scene done = PLAIN.then(make(PK, 0, 0), make(SENC, 1, 4), know(0), know(5), saturate());
        // PK(a) is known, but it is no earlier step's fact.
        done.keeps(rank(4, 0, 0), 1);
        Scene two = done.then(step(S_INIT, 0, 0, 0), step(S_INIT, 1, 0, 0));
        two.keeps(step(S_SDEC, 1, 0, 0), ERR_INVALID);
        two.keeps(step(S_SDEC, 1, 2, 0), ERR_STEP);
        two.then(step(S_PK, 0, 0, 0)).answers(step(S_SDEC, 1, 2, 0), 3);
        // Looks, refused calls and the same step once more do not matter.
        HornProtocol x = two.play();
        for (int i = 0; i < 50; i++) {
            Due.is("a refused step", x.step(S_SDEC, 1, 0, 0), ERR_INVALID);
            Due.is("rank", x.rank(1, 0, 0), 2);
        }
        Due.is("PK(a)", x.step(S_PK, 0, 0, 0), 2);
        Due.is("PK(a) again", x.step(S_PK, 0, 0, 0), 3);
        Due.is("opened with the second", x.step(S_SDEC, 1, 3, 0), 4);
        Due.is("opened with the first", x.step(S_SDEC, 1, 2, 0), 5);
        Due.is("opened again", x.step(S_SDEC, 1, 2, 0), 6);
        Due.is("the fact", x.stepFact(6), 16);
    }
}
