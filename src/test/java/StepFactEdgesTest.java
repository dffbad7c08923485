/** Promise 9, sentence by sentence. */
public final class StepFactEdgesTest extends Edges {
    /** Handles: 0..3 names; 4 is x; 5 is PK(x); 6 is PK(d). */
    private static final Scene BUILT = scene(4, 16, 9, make(VAR, 0, 0), make(PK, 4, 0),
        make(PK, 3, 0), know(3), know(6), rule(NONE, NONE, 0));
    private static final Scene DONE = BUILT.then(saturate());
    private static final Scene STEPPED =
        DONE.then(step(S_INIT, 1, 0, 0), step(S_INIT, 0, 0, 0), step(S_RULE, 0, 0, 0));

    public static void main(String[] args) {
        Due.sentence("`stepFact(j)` for a valid step j answers the ground id of f(j), a value in"
            + " 0..255", StepFactEdgesTest::value);
        Due.sentence("for any other j (negative", StepFactEdgesTest::negative);
        Due.sentence("or count(C_STEPS) or above", StepFactEdgesTest::above);
        Due.sentence("and always in phase BUILD) it answers ERR_STEP.", StepFactEdgesTest::build);
        Due.sentence("Changes nothing.", StepFactEdgesTest::changesNothing);
        Due.end();
    }

    private static void value() {
        STEPPED.keeps(stepFact(0), 5 * 16 + 3);
        STEPPED.keeps(stepFact(1), 48);
        STEPPED.keeps(stepFact(2), 0);
        // Handle 15 under the greatest assignment: the greatest id.
        Scene wide = scene(4, 16, 8, make(VAR, 0, 0), make(VAR, 1, 0));
        for (int h = 6; h < 15; h++) {
            wide = wide.then(make(PK, h == 6 ? 0 : h - 1, 0));
        }
        wide.then(make(PAIR, 4, 5), know(3), saturate(), step(S_INIT, 0, 0, 0),
            step(S_PAIR, 0, 0, 0)).keeps(stepFact(1), 255);
        // As many steps as there can be.
        Scene most = scene(2, 8, 32, know(0), know(1), saturate());
        for (int j = 0; j < 32; j++) {
            most = most.then(step(S_INIT, j % 2, 0, 0));
        }
        for (int j = 0; j < 32; j++) {
            most.keeps(stepFact(j), j % 2 * 16);
        }
    }

    private static void negative() {
        int[] below = {-1, -2, -3, -9, -32, -256, -65536, MIN + 1, MIN};
        for (int j : below) {
            DONE.keeps(stepFact(j), ERR_STEP);
            STEPPED.keeps(stepFact(j), ERR_STEP);
        }
    }

    private static void above() {
        int[] far = {9, 16, 32, 33, 256, 65536, 0x40000000, MAX - 1, MAX};
        Scene held = DONE;
        for (int steps = 0; steps <= 9; steps++) {
            held.keeps(stepFact(steps), ERR_STEP);
            held.keeps(stepFact(steps + 1), ERR_STEP);
            for (int j : far) {
                held.keeps(stepFact(j), ERR_STEP);
            }
            if (steps < 9) {
                held = held.then(step(S_INIT, 0, 0, 0));
                held.keeps(stepFact(steps), 48);
            }
        }
        Scene most = scene(2, 8, 32, know(0), saturate()).times(32, step(S_INIT, 0, 0, 0));
        most.keeps(stepFact(32), ERR_STEP);
        most.keeps(stepFact(MAX), ERR_STEP);
        // A refused step is no step.
        HornProtocol x = DONE.play();
        Due.is("a refused step", x.step(S_FST, 0, 0, 0), ERR_STEP);
        Due.is("stepFact(0)", x.stepFact(0), ERR_STEP);
    }

    private static void build() {
        Scene[] scenes = {scene(2, 8, 8), BUILT};
        for (Scene scene : scenes) {
            for (int j = 0; j < 33; j++) {
                scene.keeps(stepFact(j), ERR_STEP);
            }
            for (int j : Due.ODD_INTS) {
                scene.keeps(stepFact(j), ERR_STEP);
            }
        }
    }

    private static void changesNothing() {
        Scene[] scenes = {BUILT, DONE, STEPPED, STEPPED.times(6, step(S_INIT, 0, 0, 0))};
        for (Scene scene : scenes) {
            for (int j = -1; j < 10; j++) {
                Call call = stepFact(j);
                scene.keeps(call, call.on(scene.play()));
            }
        }
    }
}
