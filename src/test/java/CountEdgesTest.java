/** Promise 13, sentence by sentence. */
public final class CountEdgesTest extends Edges {
    private static final Scene EMPTY = scene(2, 8, 8);
    private static final Scene DONE = EMPTY.then(saturate());

    public static void main(String[] args) {
        Due.sentence("`count(what)`: what not in C_TERMS..C_KNOWN: ERR_RANGE.",
            CountEdgesTest::selector);
        Due.sentence("C_TERMS: the number of terms in the arena (N to T).", CountEdgesTest::terms);
        Due.sentence("C_KNOW: the number of knowledge entries (0 to 8).", CountEdgesTest::entries);
        Due.sentence("C_RULES: the number of rules (0 to 8).", CountEdgesTest::rules);
        Due.sentence("C_STEPS: the number of accepted steps (0 to P; 0 in phase BUILD).",
            CountEdgesTest::steps);
        Due.sentence("C_PHASE: BUILD or READY.", CountEdgesTest::phase);
        Due.sentence("C_UNIVERSE: the number of distinct ground terms in U, in any phase.",
            CountEdgesTest::universe);
        Due.sentence("C_KNOWN: in phase BUILD ERR_PHASE", CountEdgesTest::knownInBuild);
        Due.sentence("else the number of distinct ground terms in K, equal to the answer of"
            + " saturate.", CountEdgesTest::known);
        Due.sentence("Changes nothing.", CountEdgesTest::changesNothing);
        Due.end();
    }

    /** The most ground terms there can be: ten terms with sixteen instances each. */
    private static Scene widest() {
        return scene(4, 16, 32, make(VAR, 0, 0), make(VAR, 1, 0), make(PAIR, 4, 5),
            make(SENC, 4, 5), make(AENC, 4, 5), make(PK, 6, 0), make(PK, 7, 0), make(PK, 8, 0),
            make(PK, 9, 0), make(PK, 10, 0), make(PK, 11, 0), make(PAIR, 6, 7));
    }

    private static void selector() {
        Scene[] scenes = {EMPTY, DONE, widest()};
        for (Scene scene : scenes) {
            for (int what : outside(C_TERMS, C_KNOWN)) {
                scene.keeps(count(what), ERR_RANGE);
            }
        }
    }

    private static void terms() {
        for (int n = 2; n <= 4; n++) {
            for (int t = 8; t <= 16; t++) {
                Scene made = scene(n, t, 8);
                for (int h = n; h < t; h++) {
                    made.answers(count(C_TERMS), h);
                    made = made.then(make(PK, h - 1, 0));
                }
                made.keeps(count(C_TERMS), t);
                made.then(make(PK, t - 2, 0)).answers(count(C_TERMS), t);
                made.then(saturate()).keeps(count(C_TERMS), t);
            }
        }
    }

    private static void entries() {
        for (int i = 0; i <= 8; i++) {
            EMPTY.times(i, know(1)).keeps(count(C_KNOW), i);
            EMPTY.times(i, know(1)).then(saturate()).keeps(count(C_KNOW), i);
        }
        HornProtocol x = EMPTY.times(8, know(1)).play();
        Due.is("a ninth entry", x.know(1), ERR_FULL);
        Due.is("C_KNOW", x.count(C_KNOW), 8);
    }

    private static void rules() {
        for (int r = 0; r <= 8; r++) {
            EMPTY.times(r, rule(0, NONE, 1)).keeps(count(C_RULES), r);
            EMPTY.times(r, rule(0, NONE, 1)).then(saturate()).keeps(count(C_RULES), r);
        }
        HornProtocol x = EMPTY.times(8, rule(0, NONE, 1)).play();
        Due.is("a ninth rule", x.rule(0, NONE, 1), ERR_FULL);
        Due.is("C_RULES", x.count(C_RULES), 8);
    }

    private static void steps() {
        EMPTY.keeps(count(C_STEPS), 0);
        HornProtocol x = EMPTY.then(know(0)).play();
        Due.is("a step in BUILD", x.step(S_INIT, 0, 0, 0), ERR_PHASE);
        Due.is("C_STEPS", x.count(C_STEPS), 0);
        for (int p = 8; p <= 32; p++) {
            Scene done = scene(2, 8, p, know(0), saturate());
            for (int j = 0; j <= p; j++) {
                done.times(j, step(S_INIT, 0, 0, 0)).answers(count(C_STEPS), j);
            }
            HornProtocol full = done.times(p, step(S_INIT, 0, 0, 0)).play();
            Due.is("one step more", full.step(S_INIT, 0, 0, 0), ERR_FULL);
            Due.is("C_STEPS", full.count(C_STEPS), p);
        }
        // A refused step does not count.
        HornProtocol y = scene(2, 8, 8, know(0), saturate(), step(S_INIT, 0, 0, 0)).play();
        Due.is("FST of a name", y.step(S_FST, 0, 0, 0), ERR_INVALID);
        Due.is("C_STEPS", y.count(C_STEPS), 1);
    }

    private static void phase() {
        EMPTY.keeps(count(C_PHASE), BUILD);
        EMPTY.then(make(PK, 0, 0), know(0), rule(0, NONE, 1)).keeps(count(C_PHASE), BUILD);
        DONE.keeps(count(C_PHASE), READY);
        widest().then(know(0), saturate()).times(32, step(S_INIT, 0, 0, 0))
            .keeps(count(C_PHASE), READY);
    }

    private static void universe() {
        EMPTY.keeps(count(C_UNIVERSE), 2);
        DONE.keeps(count(C_UNIVERSE), 2);
        scene(3, 8, 8).keeps(count(C_UNIVERSE), 3);
        scene(4, 8, 8).keeps(count(C_UNIVERSE), 4);
        widest().keeps(count(C_TERMS), 16);
        widest().keeps(count(C_UNIVERSE), 4 + 10 * 16);
        widest().then(saturate()).keeps(count(C_UNIVERSE), 4 + 10 * 16);
        widest().then(know(0), saturate(), step(S_INIT, 0, 0, 0)).keeps(count(C_UNIVERSE), 164);
        // A variable, and a term all of whose instances are there, add nothing.
        Scene vars = EMPTY.then(make(VAR, 0, 0), make(VAR, 1, 0));
        vars.keeps(count(C_UNIVERSE), 2);
        vars.then(make(PAIR, 2, 3)).keeps(count(C_UNIVERSE), 6);
        vars.then(make(PAIR, 2, 3), make(PAIR, 3, 2)).keeps(count(C_UNIVERSE), 6);
        vars.then(make(PAIR, 2, 3), make(PAIR, 2, 2)).keeps(count(C_UNIVERSE), 6);
        vars.then(make(PAIR, 2, 2), make(PAIR, 2, 3)).keeps(count(C_UNIVERSE), 6);
        vars.then(make(PAIR, 2, 2), make(PAIR, 3, 3)).keeps(count(C_UNIVERSE), 4);
    }

    private static void knownInBuild() {
        EMPTY.keeps(count(C_KNOWN), ERR_PHASE);
        EMPTY.times(8, know(0)).keeps(count(C_KNOWN), ERR_PHASE);
        widest().keeps(count(C_KNOWN), ERR_PHASE);
    }

    private static void known() {
        DONE.keeps(count(C_KNOWN), 0);
        EMPTY.then(know(0), saturate()).keeps(count(C_KNOWN), 1);
        Scene all = widest().then(know(0), know(1), know(2), know(3));
        all.answers(saturate(), 164);
        all.then(saturate()).keeps(count(C_KNOWN), 164);
        all.then(saturate(), step(S_INIT, 0, 0, 0)).keeps(count(C_KNOWN), 164);
        // All but what holds the name d: three names, nine instances of each term.
        Scene lessD = widest().then(know(0), know(1), know(2));
        lessD.answers(saturate(), 3 + 10 * 9);
        lessD.then(saturate()).keeps(count(C_KNOWN), 93);
    }

    private static void changesNothing() {
        Scene done = widest().then(know(0), saturate(), step(S_INIT, 0, 0, 0));
        Scene[] scenes = {EMPTY, DONE, widest(), done};
        for (Scene scene : scenes) {
            for (int what = -1; what <= 7; what++) {
                Call call = count(what);
                scene.keeps(call, call.on(scene.play()));
            }
        }
    }
}
