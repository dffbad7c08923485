import java.util.ArrayList;
import java.util.Comparator;
import java.util.List;

/** Many runs of calls, the same ones each time, on the class and on the model beside it. */
public final class ModelTest {
    private static final int RUNS = 3000;

    private long seed;
    private final HornProtocol x;
    private final Model m;
    private final String who;

    private ModelTest(int run) {
        seed = run * 7919L + 17;
        int names = any(7) - 1;
        int terms = 6 + any(14);
        int steps = any(40);
        x = new HornProtocol(names, terms, steps);
        m = new Model(names, terms, steps);
        who = "run " + run + ", new(" + names + ", " + terms + ", " + steps + "): ";
    }

    public static void main(String[] args) {
        int completed = 0;
        for (int run = 0; run < RUNS; run++) {
            ModelTest test = new ModelTest(run);
            test.build();
            test.saturate();
            if (run % 2 == 0) {
                test.replay();
            } else {
                completed += test.deriveEach();
            }
        }
        Due.holds("many derivations were replayed: " + completed, completed > 5000);
        Due.end();
    }

    private int any(int bound) {
        seed = seed * 6364136223846793005L + 1442695040888963407L;
        return (int) ((seed >>> 33) % bound);
    }

    /** Mostly a number below the bound, now and then one beside or far off. */
    private int about(int bound) {
        int chance = any(24);
        if (chance == 0) {
            return Due.ODD_INTS[any(Due.ODD_INTS.length)];
        }
        if (chance == 1) {
            return bound;
        }
        return chance == 2 || bound == 0 ? -1 : any(bound);
    }

    private void build() {
        int calls = 10 + any(50);
        for (int i = 0; i < calls; i++) {
            int handles = m.count(0);
            int choice = any(20);
            if (choice < 11) {
                int kind = about(6);
                int a = kind == 1 ? about(2) : about(handles);
                int b = about(handles);
                int due = m.make(kind, a, b);
                Due.is(who + "make(" + kind + ", " + a + ", " + b + ")", x.make(kind, a, b), due);
            } else if (choice < 14) {
                int h = about(handles);
                Due.is(who + "know(" + h + ")", x.know(h), m.know(h));
            } else if (choice < 18) {
                int p1 = any(4) == 0 ? -1 : about(handles);
                int p2 = any(2) == 0 ? -1 : about(handles);
                int c = about(handles);
                int due = m.rule(p1, p2, c);
                Due.is(who + "rule(" + p1 + ", " + p2 + ", " + c + ")", x.rule(p1, p2, c), due);
            } else {
                stepOnce();
            }
            lookAtSome();
        }
        lookAtAll();
    }

    private void saturate() {
        Due.is(who + "saturate()", x.saturate(), m.saturate());
        Due.is(who + "saturate() again", x.saturate(), -2);
        lookAtAll();
    }

    private void stepOnce() {
        int kind = about(10);
        int steps = m.count(3);
        int a = kind == 0 ? about(m.count(1)) : kind == 9 ? about(m.count(2)) : about(steps);
        int b = about(steps);
        int c = about(steps);
        int due = m.step(kind, a, b, c);
        Due.is(who + "step(" + kind + ", " + a + ", " + b + ", " + c + ")",
            x.step(kind, a, b, c), due);
    }

    private void replay() {
        for (int i = 0; i < 150; i++) {
            stepOnce();
            int j = about(m.count(3));
            Due.is(who + "stepFact(" + j + ")", x.stepFact(j), m.stepFact(j));
            lookAtSome();
        }
        Due.is(who + "make in READY", x.make(about(6), about(9), about(9)), -2);
        Due.is(who + "know in READY", x.know(about(9)), -2);
        Due.is(who + "rule in READY", x.rule(about(9), about(9), about(9)), -2);
        lookAtAll();
        everyFactIsKnown();
    }

    private void everyFactIsKnown() {
        for (int j = 0; j < x.count(3); j++) {
            int id = x.stepFact(j);
            Due.holds(who + "fact " + j + " is known",
                x.rank(id / 16, id % 4, id % 16 / 4) >= 0);
        }
    }

    /** Derives the known terms in the order of their ranks, one step for each. */
    private int deriveEach() {
        List<Model.Tree> known = new ArrayList<>(m.ranks.keySet());
        known.sort(Comparator.comparing((Model.Tree g) -> m.ranks.get(g))
            .thenComparing(g -> m.universe().get(g)));
        int steps = Math.min(known.size(), m.p);
        for (int j = 0; j < steps; j++) {
            Model.Tree g = known.get(j);
            int[] call = stepFor(g);
            Due.holds(who + "a step gives " + g, call != null);
            if (call == null) {
                return j;
            }
            m.step(call[0], call[1], call[2], call[3]);
            Due.is(who + "the step for " + g, x.step(call[0], call[1], call[2], call[3]), j);
            int id = m.universe().get(g);
            Due.is(who + "its fact", x.stepFact(j), id);
            Due.is(who + "its id", x.groundId(id / 16, id % 4, id % 16 / 4), id);
        }
        lookAtAll();
        everyFactIsKnown();
        return steps;
    }

    private int[] stepFor(Model.Tree g) {
        int steps = m.count(3);
        for (int kind = 0; kind <= 9; kind++) {
            int as = kind == 0 ? m.count(1) : kind == 9 ? m.count(2) : steps;
            for (int a = 0; a < as; a++) {
                int used = kind == 9 ? m.premises.get(a).size()
                    : kind == 0 || kind >= 4 && kind <= 6 ? 0 : 1;
                for (int b = 0; b < (used >= 1 ? steps : 1); b++) {
                    for (int c = 0; c < (used == 2 ? steps : 1); c++) {
                        if (g.equals(m.fact(kind, a, b, c))) {
                            return new int[] {kind, a, b, c};
                        }
                    }
                }
            }
        }
        return null;
    }

    private void lookAtSome() {
        int h = about(m.count(0));
        int vx = about(m.n);
        int vy = about(m.n);
        int which = about(3);
        int what = about(7);
        int i = about(8);
        Due.is(who + "groundId(" + h + ", " + vx + ", " + vy + ")",
            x.groundId(h, vx, vy), m.groundId(h, vx, vy));
        Due.is(who + "rank(" + h + ", " + vx + ", " + vy + ")",
            x.rank(h, vx, vy), m.rank(h, vx, vy));
        Due.is(who + "kindOf(" + h + ")", x.kindOf(h), m.kindOf(h));
        Due.is(who + "child(" + h + ", " + which + ")", x.child(h, which), m.child(h, which));
        Due.is(who + "entry(" + i + ")", x.entry(i), m.entry(i));
        Due.is(who + "ruleTerm(" + i + ", " + which + ")",
            x.ruleTerm(i, which), m.ruleTerm(i, which));
        Due.is(who + "count(" + what + ")", x.count(what), m.count(what));
    }

    private void lookAtAll() {
        for (int what = -1; what <= 7; what++) {
            Due.is(who + "count(" + what + ")", x.count(what), m.count(what));
        }
        for (int h = -1; h <= 16; h++) {
            Due.is(who + "kindOf(" + h + ")", x.kindOf(h), m.kindOf(h));
            Due.is(who + "left of " + h, x.child(h, 0), m.child(h, 0));
            Due.is(who + "right of " + h, x.child(h, 1), m.child(h, 1));
            for (int vx = 0; vx <= 4; vx++) {
                for (int vy = 0; vy <= 4; vy++) {
                    String at = "(" + h + ", " + vx + ", " + vy + ")";
                    Due.is(who + "groundId" + at, x.groundId(h, vx, vy), m.groundId(h, vx, vy));
                    Due.is(who + "rank" + at, x.rank(h, vx, vy), m.rank(h, vx, vy));
                }
            }
        }
        for (int i = -1; i <= 8; i++) {
            Due.is(who + "entry(" + i + ")", x.entry(i), m.entry(i));
            for (int which = -1; which <= 3; which++) {
                Due.is(who + "ruleTerm(" + i + ", " + which + ")",
                    x.ruleTerm(i, which), m.ruleTerm(i, which));
            }
        }
        for (int j = -1; j <= 32; j++) {
            Due.is(who + "stepFact(" + j + ")", x.stepFact(j), m.stepFact(j));
        }
    }
}
