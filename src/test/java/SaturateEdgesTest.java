import java.util.HashSet;
import java.util.List;
import java.util.Set;

/** Promise 5, sentence by sentence. */
public final class SaturateEdgesTest extends Edges {
    private static final Scene EMPTY = scene(3, 12, 8);
    /** Handles: 0..2 names; 3 is x; 4 is PK(x); 5 is (a,PK(x)); 6 is SENC(c,b). */
    private static final Scene SOME = EMPTY.then(make(VAR, 0, 0), make(PK, 3, 0),
        make(PAIR, 0, 4), make(SENC, 2, 1), know(0), know(6), know(0), rule(4, NONE, 5),
        rule(NONE, NONE, 0));

    public static void main(String[] args) {
        Due.sentence("`saturate()` in phase READY answers ERR_PHASE and changes nothing.",
            SaturateEdgesTest::again);
        Due.sentence("In phase BUILD the phase becomes READY for good",
            SaturateEdgesTest::readyForGood);
        Due.sentence("the number of distinct ground terms in K is answered.",
            SaturateEdgesTest::answer);
        Due.sentence("The arena, the entries and the rules do not change",
            SaturateEdgesTest::keepsWhatWasBuilt);
        Due.sentence("and there are no steps yet.", SaturateEdgesTest::noSteps);
        Due.sentence("From then on K is fixed: count(C_KNOWN) equals the answer of saturate",
            SaturateEdgesTest::fixed);
        Due.sentence("both equal the number of distinct ground ids g = groundId(h, vx, vy) over all"
            + " handles h and names vx, vy (0 <= vx, vy < N) for which rank(h, vx, vy) >= 0.",
            SaturateEdgesTest::distinctIds);
        Due.sentence("In phase READY, make, know, rule and saturate answer ERR_PHASE.",
            SaturateEdgesTest::phaseErrors);
        Due.end();
    }

    private static void again() {
        EMPTY.then(saturate()).keeps(saturate(), ERR_PHASE);
        SOME.then(saturate()).keeps(saturate(), ERR_PHASE);
        SOME.then(saturate(), step(S_INIT, 0, 0, 0)).keeps(saturate(), ERR_PHASE);
        SOME.then(saturate()).times(8, step(S_INIT, 0, 0, 0)).keeps(saturate(), ERR_PHASE);
    }

    private static void readyForGood() {
        Scene[] scenes = {EMPTY, SOME};
        for (Scene scene : scenes) {
            HornProtocol x = scene.play();
            Due.is("C_PHASE before", x.count(C_PHASE), BUILD);
            x.saturate();
            Due.is("C_PHASE after", x.count(C_PHASE), READY);
            Later.builtOn(x);
            Due.is("C_PHASE after all calls", x.count(C_PHASE), READY);
        }
    }

    private static void answer() {
        EMPTY.answers(saturate(), 0);
        EMPTY.then(make(VAR, 0, 0), make(PK, 3, 0)).answers(saturate(), 0);
        EMPTY.then(know(1)).answers(saturate(), 1);
        EMPTY.times(8, know(1)).answers(saturate(), 1);
        EMPTY.then(know(0), know(1), know(2)).answers(saturate(), 3);
        // No entry, but a rule that needs none.
        EMPTY.then(rule(NONE, NONE, 2)).answers(saturate(), 1);
        // No entry, and rules that need what nobody has.
        EMPTY.then(rule(0, NONE, 2), rule(2, 1, 0)).answers(saturate(), 0);
        // PK(x) and PK(a) are one ground term when x is a.
        EMPTY.then(make(VAR, 0, 0), make(PK, 3, 0), make(PK, 0, 0), know(5)).answers(saturate(), 1);
        EMPTY.then(make(VAR, 0, 0), make(PK, 3, 0), make(PK, 0, 0), know(0)).answers(saturate(), 2);
        // a, PK(a), (a,PK(a)) and SENC(c,b).
        SOME.answers(saturate(), 4);
    }

    private static void keepsWhatWasBuilt() {
        Scene[] scenes = {EMPTY, SOME};
        for (Scene scene : scenes) {
            HornProtocol x = scene.play();
            List<Integer> before = Look.all(x);
            x.saturate();
            for (String call : Look.changed(before, Look.all(x))) {
                Due.holds("saturate leaves " + call, call.equals("count(4)")
                    || call.equals("count(6)") || call.startsWith("rank("));
            }
        }
    }

    private static void noSteps() {
        EMPTY.then(saturate()).keeps(count(C_STEPS), 0);
        SOME.then(saturate()).keeps(count(C_STEPS), 0);
        SOME.then(saturate()).keeps(stepFact(0), ERR_STEP);
        SOME.then(saturate()).keeps(step(S_PK, 0, 0, 0), ERR_STEP);
    }

    private static void fixed() {
        EMPTY.then(saturate()).keeps(count(C_KNOWN), 0);
        HornProtocol x = SOME.play();
        int answer = x.saturate();
        List<Integer> before = Look.all(x);
        for (int i = 0; i < 12; i++) {
            Due.is("C_KNOWN", x.count(C_KNOWN), answer);
            x.make(PK, 0, 0);
            x.know(1);
            x.rule(NONE, NONE, 1);
            x.saturate();
            x.step(S_INIT, 0, 0, 0);
        }
        for (String call : Look.changed(before, Look.all(x))) {
            Due.holds("only steps show, not " + call,
                call.equals("count(3)") || call.startsWith("stepFact("));
        }
    }

    private static void distinctIds() {
        Scene[] scenes = {EMPTY, EMPTY.then(know(2)), SOME, SOME.then(know(1)),
            scene(4, 16, 8, make(VAR, 0, 0), make(VAR, 1, 0), make(PAIR, 4, 5), make(PAIR, 5, 4),
                make(PK, 6, 0), make(SENC, 6, 4), know(0), know(1), know(2), know(3))};
        // The fourth: three names, their three PK, the three pairs of these with a, SENC(c,b).
        int[] due = {0, 1, 4, 10, 4 + 16 + 16 + 16};
        for (int i = 0; i < scenes.length; i++) {
            HornProtocol x = scenes[i].play();
            int answer = x.saturate();
            Due.is(scenes[i] + "saturate()", answer, due[i]);
            Set<Integer> ids = new HashSet<>();
            int n = i == 4 ? 4 : 3;
            for (int h = 0; h < x.count(C_TERMS); h++) {
                for (int vx = 0; vx < n; vx++) {
                    for (int vy = 0; vy < n; vy++) {
                        if (x.rank(h, vx, vy) >= 0) {
                            ids.add(x.groundId(h, vx, vy));
                        }
                    }
                }
            }
            Due.is(scenes[i] + "ids with a rank", ids.size(), answer);
            Due.is(scenes[i] + "count(C_KNOWN)", x.count(C_KNOWN), answer);
        }
    }

    private static void phaseErrors() {
        Scene[] scenes = {EMPTY.then(saturate()), SOME.then(saturate()),
            SOME.then(saturate(), step(S_INIT, 0, 0, 0))};
        for (Scene done : scenes) {
            done.keeps(make(VAR, 0, 0), ERR_PHASE);
            done.keeps(make(PK, 1, 0), ERR_PHASE);
            done.keeps(make(PAIR, 0, 1), ERR_PHASE);
            done.keeps(know(0), ERR_PHASE);
            done.keeps(know(1), ERR_PHASE);
            done.keeps(rule(NONE, NONE, 1), ERR_PHASE);
            done.keeps(rule(0, 1, 2), ERR_PHASE);
            done.keeps(saturate(), ERR_PHASE);
        }
    }
}
