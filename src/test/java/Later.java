import java.util.ArrayList;
import java.util.List;
import java.util.function.IntUnaryOperator;

/** What an object answers to fixed runs of further calls, each of which spends it. */
final class Later {
    private static final int[][] MAKES = {
        {1, 0, 0}, {1, 1, 0}, {5, 0, 0}, {2, 0, 1}, {3, 1, 0}, {4, 0, 2}, {2, 1, 1}, {3, 0, 0}
    };

    private Later() {
    }

    /**
     * The answers when the object is filled, each thing up to its first refusal, without a look
     * before the end. The runs below have refused calls and looks of their own, which could hide
     * what such a call before them has done.
     */
    static List<Integer> filled(HornProtocol x) {
        List<Integer> seen = new ArrayList<>();
        fill(seen, i -> x.know(0));
        fill(seen, i -> x.rule(HornProtocol.NONE, HornProtocol.NONE, 1));
        fill(seen, i -> x.make(HornProtocol.PK, i, 0));
        seen.add(x.saturate());
        fill(seen, i -> x.step(HornProtocol.S_INIT, 0, 0, 0));
        fill(seen, i -> x.step(HornProtocol.S_RULE, 0, 0, 0));
        seen.addAll(Look.all(x));
        return seen;
    }

    private static void fill(List<Integer> seen, IntUnaryOperator call) {
        int answer = 0;
        for (int i = 0; i < 40 && answer >= 0; i++) {
            answer = call.applyAsInt(i);
            seen.add(answer);
        }
    }

    /** The answers when the object is built on until all is full, and then saturated. */
    static List<Integer> builtOn(HornProtocol x) {
        List<Integer> seen = new ArrayList<>();
        for (int[] m : MAKES) {
            seen.add(x.make(m[0], m[1], m[2]));
        }
        for (int i = 0; i < 16; i++) {
            seen.add(x.make(HornProtocol.PK, x.count(HornProtocol.C_TERMS) - 1, 0));
        }
        for (int h = 0; h < 16; h++) {
            seen.add(x.know(h));
            seen.add(x.rule(h, HornProtocol.NONE, h));
            seen.add(x.rule(HornProtocol.NONE, 15 - h, 0));
            seen.add(x.rule(h, 1, h));
        }
        seen.addAll(Look.all(x));
        seen.addAll(saturated(x));
        return seen;
    }

    /** The answers when the object is saturated as it is, and steps are taken until it is full. */
    static List<Integer> saturated(HornProtocol x) {
        List<Integer> seen = new ArrayList<>();
        seen.add(x.saturate());
        seen.addAll(Look.all(x));
        for (int i = 0; i < 9; i++) {
            seen.add(x.step(HornProtocol.S_INIT, i, 0, 0));
            seen.add(x.step(HornProtocol.S_RULE, i, i, 0));
            for (int kind = HornProtocol.S_PAIR; kind <= HornProtocol.S_ADEC; kind++) {
                seen.add(x.step(kind, i, 0, 0));
                seen.add(x.step(kind, 0, i, 0));
            }
        }
        for (int i = 0; i < 33; i++) {
            seen.add(x.step(HornProtocol.S_INIT, 0, 0, 0));
            seen.add(x.step(HornProtocol.S_RULE, 0, 0, 0));
        }
        seen.addAll(Look.all(x));
        return seen;
    }
}
