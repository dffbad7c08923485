import java.util.ArrayList;
import java.util.List;

/** Short names for what the tests of single sentences share. */
abstract class Edges {
    static final int NAME = HornProtocol.NAME;
    static final int VAR = HornProtocol.VAR;
    static final int PAIR = HornProtocol.PAIR;
    static final int SENC = HornProtocol.SENC;
    static final int AENC = HornProtocol.AENC;
    static final int PK = HornProtocol.PK;

    static final int S_INIT = HornProtocol.S_INIT;
    static final int S_PAIR = HornProtocol.S_PAIR;
    static final int S_SENC = HornProtocol.S_SENC;
    static final int S_AENC = HornProtocol.S_AENC;
    static final int S_PK = HornProtocol.S_PK;
    static final int S_FST = HornProtocol.S_FST;
    static final int S_SND = HornProtocol.S_SND;
    static final int S_SDEC = HornProtocol.S_SDEC;
    static final int S_ADEC = HornProtocol.S_ADEC;
    static final int S_RULE = HornProtocol.S_RULE;

    static final int C_TERMS = HornProtocol.C_TERMS;
    static final int C_KNOW = HornProtocol.C_KNOW;
    static final int C_RULES = HornProtocol.C_RULES;
    static final int C_STEPS = HornProtocol.C_STEPS;
    static final int C_PHASE = HornProtocol.C_PHASE;
    static final int C_UNIVERSE = HornProtocol.C_UNIVERSE;
    static final int C_KNOWN = HornProtocol.C_KNOWN;

    static final int BUILD = HornProtocol.BUILD;
    static final int READY = HornProtocol.READY;

    static final int NONE = HornProtocol.NONE;
    static final int UNDERIVABLE = HornProtocol.UNDERIVABLE;
    static final int ERR_PHASE = HornProtocol.ERR_PHASE;
    static final int ERR_KIND = HornProtocol.ERR_KIND;
    static final int ERR_RANGE = HornProtocol.ERR_RANGE;
    static final int ERR_HANDLE = HornProtocol.ERR_HANDLE;
    static final int ERR_FULL = HornProtocol.ERR_FULL;
    static final int ERR_NOT_GROUND = HornProtocol.ERR_NOT_GROUND;
    static final int ERR_UNBOUND = HornProtocol.ERR_UNBOUND;
    static final int ERR_STEP = HornProtocol.ERR_STEP;
    static final int ERR_INVALID = HornProtocol.ERR_INVALID;

    static final int MIN = Integer.MIN_VALUE;
    static final int MAX = Integer.MAX_VALUE;

    static Scene scene(int names, int terms, int steps, Call... calls) {
        return new Scene(names, terms, steps, List.of(calls));
    }

    static Call make(int kind, int a, int b) {
        return new Call("make", kind, a, b);
    }

    static Call know(int h) {
        return new Call("know", h);
    }

    static Call rule(int p1, int p2, int c) {
        return new Call("rule", p1, p2, c);
    }

    static Call saturate() {
        return new Call("saturate");
    }

    static Call rank(int h, int vx, int vy) {
        return new Call("rank", h, vx, vy);
    }

    static Call groundId(int h, int vx, int vy) {
        return new Call("groundId", h, vx, vy);
    }

    static Call step(int kind, int a, int b, int c) {
        return new Call("step", kind, a, b, c);
    }

    static Call stepFact(int j) {
        return new Call("stepFact", j);
    }

    static Call kindOf(int h) {
        return new Call("kindOf", h);
    }

    static Call child(int h, int which) {
        return new Call("child", h, which);
    }

    static Call entry(int i) {
        return new Call("entry", i);
    }

    static Call ruleTerm(int r, int which) {
        return new Call("ruleTerm", r, which);
    }

    static Call count(int what) {
        return new Call("count", what);
    }

    /** Ints that are not in first..last, those beside it among them. */
    static List<Integer> outside(int first, int last) {
        List<Integer> out = new ArrayList<>();
        out.add(first - 1);
        out.add(last + 1);
        for (int odd : Due.ODD_INTS) {
            if (odd < first || odd > last) {
                out.add(odd);
            }
        }
        return out;
    }
}
