import java.util.List;
import java.util.Set;

/** What the document says of every refused call, over every method and many states. */
public final class RefusalEdgesTest extends Edges {
    private static final Set<Integer> ERRORS = Set.of(ERR_PHASE, ERR_KIND, ERR_RANGE, ERR_HANDLE,
        ERR_FULL, ERR_NOT_GROUND, ERR_UNBOUND, ERR_STEP, ERR_INVALID);
    private static final int[] VALUES = {MIN, -0x40000000, -4, -2, -1, 0, 1, 2, 3, 4, 5, 6, 7, 8, 9,
        10, 16, 32, 256, 0x10000000, 0x40000000, MAX};
    private static final int[] FEW = {MIN, -1, 0, 1, 4, 8, MAX};

    private static final Scene EMPTY = scene(2, 8, 8);
    /** Handles: 0, 1 names; 2 is x; 3 is PK(x); 4 is (b,x); 5 is SENC(a,b). */
    private static final Scene SOME = scene(2, 8, 8, make(VAR, 0, 0), make(PK, 2, 0),
        make(PAIR, 1, 2), make(SENC, 0, 1), know(5), know(1), rule(3, NONE, 2), rule(0, 2, 4));
    private static final Scene FULL = SOME.then(make(AENC, 0, 3), make(VAR, 1, 0))
        .times(6, know(1)).times(6, rule(NONE, NONE, 1));
    private static final Scene DONE = SOME.then(saturate());
    private static final Scene STEPPED = DONE.then(step(S_INIT, 0, 0, 0), step(S_INIT, 1, 0, 0),
        step(S_SDEC, 0, 1, 0), step(S_PK, 2, 0, 0));
    private static final Scene[] SCENES = {EMPTY, SOME, FULL, EMPTY.then(saturate()), DONE,
        STEPPED, STEPPED.times(4, step(S_INIT, 1, 0, 0)), FULL.then(saturate())};

    public static void main(String[] args) {
        Due.sentence("Every refused call answers a negative error constant",
            RefusalEdgesTest::constants);
        Due.sentence("Every refused call answers a negative error constant and changes nothing.",
            RefusalEdgesTest::everyCall);
        Due.end();
    }

    private static void constants() {
        Due.is("the error constants differ", ERRORS.size(), 9);
        for (int error : ERRORS) {
            Due.holds("error " + error + " is negative", error < 0);
            Due.holds("error " + error + " is no NONE", error != NONE && error != UNDERIVABLE);
        }
    }

    private static void everyCall() {
        for (Scene scene : SCENES) {
            Sweep sweep = new Sweep(scene);
            sweep.add(saturate(), List.of(ERR_PHASE));
            for (int a : VALUES) {
                sweep.add(know(a), List.of(ERR_PHASE, ERR_HANDLE, ERR_NOT_GROUND, ERR_FULL));
                sweep.add(stepFact(a), List.of(ERR_STEP));
                sweep.add(kindOf(a), List.of(ERR_HANDLE));
                sweep.add(entry(a), List.of(ERR_RANGE));
                sweep.add(count(a), List.of(ERR_RANGE, ERR_PHASE));
                for (int b : VALUES) {
                    sweep.add(child(a, b), List.of(-1, ERR_HANDLE, ERR_RANGE));
                    sweep.add(ruleTerm(a, b), List.of(NONE, ERR_RANGE));
                    for (int c : VALUES) {
                        sweepThree(sweep, a, b, c);
                    }
                }
            }
            for (int kind = -1; kind <= 10; kind++) {
                for (int a : FEW) {
                    for (int b : FEW) {
                        for (int c : FEW) {
                            sweep.add(step(kind, a, b, c), List.of(ERR_PHASE, ERR_FULL, ERR_KIND,
                                ERR_RANGE, ERR_STEP, ERR_INVALID));
                        }
                    }
                }
            }
            sweep.end();
        }
    }

    private static void sweepThree(Sweep sweep, int a, int b, int c) {
        sweep.add(make(a, b, c), List.of(ERR_PHASE, ERR_KIND, ERR_RANGE, ERR_HANDLE, ERR_FULL));
        sweep.add(rule(a, b, c), List.of(ERR_PHASE, ERR_HANDLE, ERR_UNBOUND, ERR_FULL));
        sweep.add(groundId(a, b, c), List.of(ERR_HANDLE, ERR_RANGE));
        sweep.add(rank(a, b, c), List.of(UNDERIVABLE, ERR_PHASE, ERR_HANDLE, ERR_RANGE));
    }

    /** All the refused calls one after the other on some objects, which must stay as they were. */
    private static final class Sweep {
        private final Scene scene;
        private final HornProtocol[] touched = new HornProtocol[4];

        Sweep(Scene scene) {
            this.scene = scene;
            for (int i = 0; i < touched.length; i++) {
                touched[i] = scene.play();
            }
        }

        void add(Call call, List<Integer> negative) {
            int got = call.on(scene.play());
            if (got >= 0) {
                return;
            }
            if (!negative.contains(got)) {
                Due.holds(scene + call.toString() + " may not answer " + got, false);
            }
            for (HornProtocol x : touched) {
                if (call.on(x) != got) {
                    Due.holds(scene + call.toString() + " answers " + got + " after other refused"
                        + " calls too", false);
                }
            }
        }

        void end() {
            Due.holds(scene + "refused calls change nothing",
                Look.all(touched[0]).equals(Look.all(scene.play())));
            Due.holds(scene + "refused calls use nothing up",
                Later.filled(touched[1]).equals(Later.filled(scene.play())));
            Due.holds(scene + "refused calls change nothing for later ones",
                Later.builtOn(touched[2]).equals(Later.builtOn(scene.play())));
            Due.holds(scene + "refused calls change nothing for K and steps",
                Later.saturated(touched[3]).equals(Later.saturated(scene.play())));
        }
    }
}
