import java.util.List;
import java.util.Set;

/** Promise 8 up to its guarantees, sentence by sentence. */
public final class StepEdgesTest extends Edges {
    private static final int[] ONE = {S_PK, S_FST, S_SND};
    private static final int[] TWO = {S_PAIR, S_SENC, S_AENC, S_SDEC, S_ADEC};

    /** 0..3 names; 4 is x; 5 is y; 6 is (x,y); 7 is PK(x); 8 is PK(b); 9 is SENC(a,b). */
    private static final Scene TERMS = scene(4, 16, 8, make(VAR, 0, 0), make(VAR, 1, 0),
        make(PAIR, 4, 5), make(PK, 4, 0), make(PK, 1, 0), make(SENC, 0, 1), make(AENC, 2, 8));
    private static final int AENC_C_PKB = 10;
    private static final Scene BUILT = TERMS.then(make(PAIR, 0, 1), know(11), know(9), know(10),
        know(1), rule(NONE, NONE, 0), rule(7, NONE, 4), rule(4, 5, 6), rule(NONE, 6, 5));
    private static final Scene DONE = BUILT.then(saturate());
    /** Step 0 is (a,b), 1 is SENC(a,b), 2 is AENC(c,PK(b)), 3 is b. */
    private static final Scene STEPPED = DONE.then(init(0), init(1), init(2), init(3));
    private static final Scene FULL = STEPPED.times(4, init(3));

    private static final int A = 0;
    private static final int B = 16;
    private static final int C = 32;
    private static final int PAIR_AB = 6 * 16 + 4;
    private static final int PK_B = 7 * 16 + 1;
    private static final int SENC_AB = 9 * 16;
    private static final int AENC_C = AENC_C_PKB * 16;

    public static void main(String[] args) {
        Due.sentence("Conditions in order", StepEdgesTest::order);
        Due.sentence("Phase BUILD: ERR_PHASE.", StepEdgesTest::build);
        Due.sentence("P steps held: ERR_FULL.", StepEdgesTest::full);
        Due.sentence("kind not in S_INIT..S_RULE: ERR_KIND.", StepEdgesTest::kind);
        Due.sentence("S_INIT: a not in 0..count(C_KNOW)-1: ERR_RANGE.", StepEdgesTest::initRange);
        Due.sentence("S_PK, S_FST, S_SND: a not a valid step: ERR_STEP.",
            StepEdgesTest::oneReference);
        Due.sentence("S_PAIR, S_SENC, S_AENC, S_SDEC, S_ADEC: a, then b, not a valid step:"
            + " ERR_STEP.", StepEdgesTest::twoReferences);
        Due.sentence("S_RULE: a not in 0..count(C_RULES)-1: ERR_RANGE", StepEdgesTest::ruleRange);
        Due.sentence("then b if rule a has a first premise, then c if it has a second, not a valid"
            + " step: ERR_STEP.", StepEdgesTest::ruleReferences);
        Due.sentence("Arguments not used by a kind (and b, c for premises a rule lacks) are"
            + " ignored.", StepEdgesTest::ignored);
        Due.sentence("The new fact; if its condition fails: ERR_INVALID.", StepEdgesTest::invalid);
        Due.sentence("S_INIT: the term of knowledge entry a (always valid).",
            StepEdgesTest::initFact);
        Due.sentence("S_PAIR: PAIR(f(a),f(b)); S_SENC: SENC(f(a),f(b)); S_AENC: AENC(f(a),f(b));"
            + " S_PK: PK(f(a)); valid if that term is in U.", StepEdgesTest::composed);
        Due.sentence("S_FST, S_SND: valid if f(a) is PAIR(u,v); the fact is u, respectively v.",
            StepEdgesTest::split);
        Due.sentence("S_SDEC: valid if f(a) is SENC(u,v) and f(b) equals v; the fact is u.",
            StepEdgesTest::symmetric);
        Due.sentence("S_ADEC: valid if f(a) is AENC(u,PK(v)) and f(b) equals v; the fact is u.",
            StepEdgesTest::publicKey);
        Due.sentence("S_RULE: valid if there is an assignment under which the instance of the first"
            + " premise of rule a equals f(b) and that of the second equals f(c) (for the premises"
            + " it has)", StepEdgesTest::ruleMatches);
        Due.sentence("the fact is the instance of its conclusion under such an assignment (all give"
            + " the same).", StepEdgesTest::ruleFact);
        Due.sentence("A rule without premises is always valid.", StepEdgesTest::ruleAlone);
        Due.sentence("On success the step is appended with its fact, count(C_STEPS) grows by one,"
            + " and the answer is the step's index, the old count(C_STEPS).",
            StepEdgesTest::appended);
        Due.sentence("A refused step changes nothing.", StepEdgesTest::refusedChangesNothing);
        Due.sentence("Earlier steps never change.", StepEdgesTest::earlierStay);
        Due.end();
    }

    private static Call init(int i) {
        return step(S_INIT, i, 0, 0);
    }

    /** The call is accepted as step j, with this fact. */
    private static void gives(Scene scene, int j, Call call, int fact) {
        scene.answers(call, j);
        scene.then(call).answers(stepFact(j), fact);
    }

    /** Each pair of conditions that can hold at once. */
    private static void order() {
        for (int kind = S_INIT; kind <= S_RULE; kind++) {
            BUILT.keeps(step(kind, -1, -1, -1), ERR_PHASE);
            FULL.keeps(step(kind, -1, -1, -1), ERR_FULL);
            FULL.keeps(step(kind, 8, 8, 8), ERR_FULL);
        }
        BUILT.keeps(step(-1, 0, 0, 0), ERR_PHASE);
        BUILT.keeps(step(10, MIN, MIN, MIN), ERR_PHASE);
        FULL.keeps(step(-1, 0, 0, 0), ERR_FULL);
        FULL.keeps(step(10, MAX, MAX, MAX), ERR_FULL);
        FULL.keeps(step(S_FST, 3, 0, 0), ERR_FULL);
        STEPPED.keeps(step(10, -1, -1, -1), ERR_KIND);
        STEPPED.keeps(step(-1, 99, 99, 99), ERR_KIND);
        // A wrong reference comes before a condition that fails.
        for (int kind : TWO) {
            STEPPED.keeps(step(kind, 3, 4, 0), ERR_STEP);
            STEPPED.keeps(step(kind, 4, 3, 0), ERR_STEP);
        }
        STEPPED.keeps(step(S_SDEC, 0, 4, 0), ERR_STEP);
        STEPPED.keeps(step(S_ADEC, 1, -1, 0), ERR_STEP);
        STEPPED.keeps(step(S_RULE, 4, -1, -1), ERR_RANGE);
        STEPPED.keeps(step(S_RULE, -1, 4, 4), ERR_RANGE);
        // Rule 2 asks for two names: b is none, and c is no step.
        STEPPED.keeps(step(S_RULE, 2, 1, 4), ERR_STEP);
        STEPPED.keeps(step(S_RULE, 2, 4, 1), ERR_STEP);
    }

    private static void build() {
        Scene[] scenes = {scene(2, 8, 8), TERMS, BUILT};
        for (Scene scene : scenes) {
            for (int kind = S_INIT; kind <= S_RULE; kind++) {
                scene.keeps(step(kind, 0, 0, 0), ERR_PHASE);
            }
        }
    }

    private static void full() {
        for (int kind = S_INIT; kind <= S_RULE; kind++) {
            for (int a = 0; a < 4; a++) {
                FULL.keeps(step(kind, a, 3, 3), ERR_FULL);
            }
        }
        for (int p = 8; p <= 32; p++) {
            Scene held = scene(2, 8, p, know(0), rule(NONE, NONE, 1), saturate())
                .times(p - 1, init(0));
            held.answers(init(0), p - 1);
            held.answers(step(S_RULE, 0, 0, 0), p - 1);
            held.then(init(0)).keeps(init(0), ERR_FULL);
            held.then(step(S_RULE, 0, 0, 0)).keeps(step(S_RULE, 0, 0, 0), ERR_FULL);
        }
    }

    private static void kind() {
        for (int kind : outside(S_INIT, S_RULE)) {
            DONE.keeps(step(kind, 0, 0, 0), ERR_KIND);
            STEPPED.keeps(step(kind, 0, 1, 2), ERR_KIND);
        }
    }

    private static void initRange() {
        for (int a : outside(0, 3)) {
            DONE.keeps(init(a), ERR_RANGE);
            STEPPED.keeps(init(a), ERR_RANGE);
        }
        DONE.answers(init(0), 0);
        DONE.answers(init(3), 0);
        // Without an entry, no index is good.
        TERMS.then(saturate()).keeps(init(0), ERR_RANGE);
        Scene most = TERMS.times(8, know(0)).then(saturate());
        most.answers(init(7), 0);
        most.keeps(init(8), ERR_RANGE);
    }

    private static void oneReference() {
        for (int kind : ONE) {
            DONE.keeps(step(kind, 0, 0, 0), ERR_STEP);
            for (int a : outside(0, 3)) {
                STEPPED.keeps(step(kind, a, 0, 0), ERR_STEP);
            }
        }
        STEPPED.answers(step(S_PK, 3, 0, 0), 4);
        STEPPED.answers(step(S_FST, 0, 0, 0), 4);
        STEPPED.answers(step(S_SND, 0, 0, 0), 4);
    }

    private static void twoReferences() {
        for (int kind : TWO) {
            DONE.keeps(step(kind, 0, 0, 0), ERR_STEP);
            for (int odd : outside(0, 3)) {
                STEPPED.keeps(step(kind, odd, 3, 0), ERR_STEP);
                STEPPED.keeps(step(kind, 1, odd, 0), ERR_STEP);
                STEPPED.keeps(step(kind, odd, odd, 0), ERR_STEP);
            }
        }
        STEPPED.answers(step(S_PAIR, 3, 3, 0), 4);
        STEPPED.answers(step(S_SDEC, 1, 3, 0), 4);
        STEPPED.answers(step(S_ADEC, 2, 3, 0), 4);
    }

    private static void ruleRange() {
        for (int a : outside(0, 3)) {
            DONE.keeps(step(S_RULE, a, 0, 0), ERR_RANGE);
            STEPPED.keeps(step(S_RULE, a, 3, 3), ERR_RANGE);
        }
        TERMS.then(know(0), saturate()).keeps(step(S_RULE, 0, 0, 0), ERR_RANGE);
        Scene most = TERMS.times(8, rule(NONE, NONE, 2)).then(saturate());
        most.answers(step(S_RULE, 7, 0, 0), 0);
        most.keeps(step(S_RULE, 8, 0, 0), ERR_RANGE);
    }

    private static void ruleReferences() {
        for (int r = 1; r < 4; r++) {
            DONE.keeps(step(S_RULE, r, 0, 0), ERR_STEP);
            for (int b : outside(0, 3)) {
                STEPPED.keeps(step(S_RULE, r, b, 3), ERR_STEP);
            }
        }
        for (int c : outside(0, 3)) {
            STEPPED.keeps(step(S_RULE, 2, 3, c), ERR_STEP);
            STEPPED.keeps(step(S_RULE, 2, c, c), ERR_STEP);
        }
        STEPPED.answers(step(S_RULE, 2, 3, 3), 4);
        STEPPED.answers(step(S_RULE, 3, 0, 4), 4);
    }

    private static void ignored() {
        for (int odd : outside(0, 3)) {
            gives(STEPPED, 4, step(S_INIT, 3, odd, odd), B);
            gives(STEPPED, 4, step(S_PK, 3, odd, odd), PK_B);
            gives(STEPPED, 4, step(S_FST, 0, odd, odd), A);
            gives(STEPPED, 4, step(S_SND, 0, odd, odd), B);
            gives(STEPPED, 4, step(S_PAIR, 3, 3, odd), 6 * 16 + 5);
            gives(STEPPED, 4, step(S_SDEC, 1, 3, odd), A);
            gives(STEPPED, 4, step(S_ADEC, 2, 3, odd), C);
            gives(DONE, 0, step(S_RULE, 0, odd, odd), A);
            gives(STEPPED.then(step(S_PK, 3, 0, 0)), 5, step(S_RULE, 1, 4, odd), B);
            gives(STEPPED, 4, step(S_RULE, 3, 0, odd), B);
            gives(STEPPED.then(init(3), step(S_FST, 0, 0, 0)), 6, step(S_SENC, 5, 4, odd), SENC_AB);
            gives(STEPPED.then(step(S_PK, 3, 0, 0), step(S_ADEC, 2, 3, 0)), 6,
                step(S_AENC, 5, 4, odd), AENC_C);
        }
    }

    private static void invalid() {
        for (int a = 1; a < 4; a++) {
            STEPPED.keeps(step(S_FST, a, 0, 0), ERR_INVALID);
            STEPPED.keeps(step(S_SND, a, 0, 0), ERR_INVALID);
        }
        STEPPED.keeps(step(S_PAIR, 0, 0, 0), ERR_INVALID);
        STEPPED.keeps(step(S_SENC, 3, 3, 0), ERR_INVALID);
        STEPPED.keeps(step(S_AENC, 3, 3, 0), ERR_INVALID);
        STEPPED.keeps(step(S_PK, 0, 0, 0), ERR_INVALID);
        STEPPED.keeps(step(S_SDEC, 1, 1, 0), ERR_INVALID);
        STEPPED.keeps(step(S_ADEC, 2, 2, 0), ERR_INVALID);
        STEPPED.keeps(step(S_RULE, 1, 0, 0), ERR_INVALID);
        STEPPED.keeps(step(S_RULE, 2, 0, 3), ERR_INVALID);
        STEPPED.keeps(step(S_RULE, 2, 3, 0), ERR_INVALID);
        STEPPED.keeps(step(S_RULE, 3, 1, 0), ERR_INVALID);
    }

    private static void initFact() {
        int[] due = {PAIR_AB, SENC_AB, AENC_C, B};
        for (int i = 0; i < 4; i++) {
            gives(DONE, 0, init(i), due[i]);
            gives(STEPPED, 4, init(i), due[i]);
        }
        Scene most = scene(4, 16, 8, know(3), know(2), know(1), know(0), know(0), know(1), know(2),
            know(3), saturate());
        for (int i = 0; i < 8; i++) {
            gives(most, 0, init(i), (i < 4 ? 3 - i : i - 4) * 16);
        }
    }

    private static void composed() {
        // Steps 4, 5, 6: a, PK(b), c.
        Scene more = STEPPED.then(step(S_FST, 0, 0, 0), step(S_PK, 3, 0, 0), step(S_ADEC, 2, 3, 0));
        gives(more, 7, step(S_PAIR, 4, 3, 0), PAIR_AB);
        gives(more, 7, step(S_PAIR, 3, 4, 0), 6 * 16 + 1);
        gives(more, 7, step(S_PAIR, 4, 4, 0), 6 * 16);
        more.keeps(step(S_PAIR, 0, 4, 0), ERR_INVALID);
        more.keeps(step(S_PAIR, 4, 5, 0), ERR_INVALID);
        gives(more, 7, step(S_SENC, 4, 3, 0), SENC_AB);
        more.keeps(step(S_SENC, 3, 4, 0), ERR_INVALID);
        more.keeps(step(S_SENC, 4, 4, 0), ERR_INVALID);
        more.keeps(step(S_SENC, 6, 5, 0), ERR_INVALID);
        gives(more, 7, step(S_AENC, 6, 5, 0), AENC_C);
        more.keeps(step(S_AENC, 5, 6, 0), ERR_INVALID);
        more.keeps(step(S_AENC, 4, 3, 0), ERR_INVALID);
        more.keeps(step(S_AENC, 6, 3, 0), ERR_INVALID);
        gives(more, 7, step(S_PK, 3, 0, 0), PK_B);
        gives(more, 7, step(S_PK, 4, 0, 0), 7 * 16);
        more.keeps(step(S_PK, 5, 0, 0), ERR_INVALID);
        more.keeps(step(S_PK, 1, 0, 0), ERR_INVALID);
    }

    private static void split() {
        gives(STEPPED, 4, step(S_FST, 0, 0, 0), A);
        gives(STEPPED, 4, step(S_SND, 0, 0, 0), B);
        // A PK, an SENC, an AENC and a name are no pairs.
        Scene others = STEPPED.then(step(S_PK, 3, 0, 0));
        for (int a = 1; a <= 4; a++) {
            others.keeps(step(S_FST, a, 0, 0), ERR_INVALID);
            others.keeps(step(S_SND, a, 0, 0), ERR_INVALID);
        }
        // (c,(a,b)): the right part is a pair itself.
        Scene nested = TERMS.then(make(PAIR, 0, 1), make(PAIR, 2, 11), know(12), saturate(),
            init(0));
        gives(nested, 1, step(S_FST, 0, 0, 0), C);
        gives(nested, 1, step(S_SND, 0, 0, 0), PAIR_AB);
        gives(nested.then(step(S_SND, 0, 0, 0)), 2, step(S_SND, 1, 0, 0), B);
        nested.then(step(S_FST, 0, 0, 0)).keeps(step(S_FST, 1, 0, 0), ERR_INVALID);
    }

    private static void symmetric() {
        gives(STEPPED, 4, step(S_SDEC, 1, 3, 0), A);
        for (int b = 0; b < 3; b++) {
            STEPPED.keeps(step(S_SDEC, 1, b, 0), ERR_INVALID);
        }
        for (int a = 0; a < 4; a++) {
            if (a != 1) {
                STEPPED.keeps(step(S_SDEC, a, 3, 0), ERR_INVALID);
            }
        }
        // SENC(c,PK(b)) is opened by PK(b), not by b; AENC(c,b) by nothing.
        Scene keys = TERMS.then(make(SENC, 2, 8), make(AENC, 2, 1), know(11), know(12), know(1),
            saturate(), init(0), init(1), init(2), step(S_PK, 2, 0, 0));
        gives(keys, 4, step(S_SDEC, 0, 3, 0), C);
        keys.keeps(step(S_SDEC, 0, 2, 0), ERR_INVALID);
        keys.keeps(step(S_SDEC, 1, 2, 0), ERR_INVALID);
        keys.keeps(step(S_ADEC, 0, 2, 0), ERR_INVALID);
        keys.keeps(step(S_ADEC, 0, 3, 0), ERR_INVALID);
    }

    private static void publicKey() {
        gives(STEPPED, 4, step(S_ADEC, 2, 3, 0), C);
        for (int b = 0; b < 3; b++) {
            STEPPED.keeps(step(S_ADEC, 2, b, 0), ERR_INVALID);
        }
        for (int a = 0; a < 4; a++) {
            if (a != 2) {
                STEPPED.keeps(step(S_ADEC, a, 3, 0), ERR_INVALID);
            }
        }
        // PK(b) does not open what is closed with it.
        Scene withPk = STEPPED.then(step(S_PK, 3, 0, 0));
        withPk.keeps(step(S_ADEC, 2, 4, 0), ERR_INVALID);
        // AENC(c,b) has no PK as its key, nor has AENC(c,(b,b)): nothing opens them.
        Scene noPk = TERMS.then(make(AENC, 2, 1), make(PAIR, 1, 1), make(AENC, 2, 12), know(11),
            know(13), know(1), know(0), know(3), saturate(), init(0), init(1), init(2), init(3),
            init(4), step(S_PK, 2, 0, 0), step(S_PAIR, 2, 2, 0));
        for (int b = 0; b < 7; b++) {
            noPk.keeps(step(S_ADEC, 0, b, 0), ERR_INVALID);
            noPk.keeps(step(S_ADEC, 1, b, 0), ERR_INVALID);
        }
        // AENC(c,PK(PK(b))) is opened by PK(b) alone.
        Scene twice = TERMS.then(make(PK, 8, 0), make(AENC, 2, 11), know(12), know(1), saturate(),
            init(0), init(1), step(S_PK, 1, 0, 0));
        gives(twice, 3, step(S_ADEC, 0, 2, 0), C);
        twice.keeps(step(S_ADEC, 0, 1, 0), ERR_INVALID);
    }

    private static void ruleMatches() {
        // Rule 0: x, (x,y) give y; rule 1: PK(x), PK(x) give x; rule 2: b, PK(b) give c.
        Scene done = TERMS.then(rule(4, 6, 5), rule(7, 7, 4), rule(1, 8, 2), know(0), know(1),
            saturate(), init(0), init(1), step(S_PAIR, 0, 1, 0), step(S_PK, 0, 0, 0),
            step(S_PK, 1, 0, 0));
        gives(done, 5, step(S_RULE, 0, 0, 2), B);
        done.keeps(step(S_RULE, 0, 1, 2), ERR_INVALID);
        done.keeps(step(S_RULE, 0, 2, 2), ERR_INVALID);
        done.keeps(step(S_RULE, 0, 0, 0), ERR_INVALID);
        done.keeps(step(S_RULE, 0, 2, 0), ERR_INVALID);
        gives(done, 5, step(S_RULE, 1, 3, 3), A);
        gives(done, 5, step(S_RULE, 1, 4, 4), B);
        done.keeps(step(S_RULE, 1, 3, 4), ERR_INVALID);
        done.keeps(step(S_RULE, 1, 4, 3), ERR_INVALID);
        gives(done, 5, step(S_RULE, 2, 1, 4), C);
        done.keeps(step(S_RULE, 2, 0, 4), ERR_INVALID);
        done.keeps(step(S_RULE, 2, 1, 3), ERR_INVALID);
        done.keeps(step(S_RULE, 2, 4, 1), ERR_INVALID);
    }

    private static void ruleFact() {
        // Every name for x and for y: the fact has just these.
        Scene all = scene(4, 16, 32, make(VAR, 0, 0), make(VAR, 1, 0), make(PAIR, 4, 5),
            make(SENC, 5, 4), rule(4, 5, 7), rule(6, NONE, 4), rule(4, NONE, 2), know(0), know(1),
            know(2), know(3), saturate(), init(0), init(1), init(2), init(3));
        for (int b = 0; b < 4; b++) {
            for (int c = 0; c < 4; c++) {
                gives(all, 4, step(S_RULE, 0, b, c), 7 * 16 + b + 4 * c);
                // y is in the premise alone: each assignment of it gives the same fact.
                gives(all.then(step(S_PAIR, b, c, 0)), 5, step(S_RULE, 1, 4, 0), b * 16);
            }
            // A ground conclusion, whatever x is.
            gives(all, 4, step(S_RULE, 2, b, 0), 32);
        }
    }

    private static void ruleAlone() {
        Scene alone = TERMS.then(rule(NONE, NONE, 3), rule(NONE, NONE, AENC_C_PKB), saturate());
        gives(alone, 0, step(S_RULE, 0, 0, 0), 48);
        gives(alone, 0, step(S_RULE, 0, -1, MAX), 48);
        gives(alone, 0, step(S_RULE, 1, MIN, -1), AENC_C);
        gives(alone.times(7, step(S_RULE, 1, 0, 0)), 7, step(S_RULE, 0, 0, 0), 48);
    }

    private static void appended() {
        int[][] calls = {{0, 0, 0, 0}, {0, 3, 0, 0}, {5, 0, 0, 0}, {1, 1, 2, 0}, {4, 1, 0, 0},
            {9, 1, 4, 0}, {9, 2, 1, 2}, {6, 3, 0, 0}};
        int[] due = {PAIR_AB, B, A, 6 * 16 + 1, PK_B, B, 6 * 16 + 1, A};
        HornProtocol x = DONE.play();
        for (int j = 0; j < 8; j++) {
            int[] m = calls[j];
            List<Integer> before = Look.all(x);
            Due.is("C_STEPS", x.count(C_STEPS), j);
            Due.is("step " + j, x.step(m[0], m[1], m[2], m[3]), j);
            Due.is("C_STEPS after it", x.count(C_STEPS), j + 1);
            Due.is("stepFact(" + j + ")", x.stepFact(j), due[j]);
            Set<String> changed = Look.changed(before, Look.all(x));
            Due.holds("step changes " + changed,
                changed.equals(Set.of("count(3)", "stepFact(" + j + ")")));
        }
    }

    private static void refusedChangesNothing() {
        Scene[] scenes = {BUILT, DONE, STEPPED, FULL};
        int[] args = {MIN, -1, 0, 1, 3, 4, 8, MAX};
        for (Scene scene : scenes) {
            for (int kind = -1; kind <= 10; kind++) {
                for (int a : args) {
                    for (int b : args) {
                        Call call = step(kind, a, b, b);
                        int answer = call.on(scene.play());
                        if (answer < 0) {
                            scene.keeps(call, answer);
                        }
                    }
                }
            }
        }
    }

    private static void earlierStay() {
        HornProtocol x = scene(4, 16, 32, know(0), know(1), know(2), know(3), saturate()).play();
        for (int j = 0; j < 32; j++) {
            Due.is("step", x.step(S_INIT, j * 7 % 4, 0, 0), j);
            x.step(S_FST, j, 0, 0);
            x.step(S_PK, j, 0, 0);
            x.step(S_RULE, 0, 0, 0);
            for (int i = 0; i <= j; i++) {
                Due.is("stepFact(" + i + ") after " + j, x.stepFact(i), i * 7 % 4 * 16);
            }
        }
        x.step(S_INIT, 0, 0, 0);
        Due.is("stepFact(31)", x.stepFact(31), 31 * 7 % 4 * 16);
        Due.is("stepFact(0)", x.stepFact(0), 0);
    }
}
