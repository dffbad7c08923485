import java.util.ArrayList;
import java.util.List;
import java.util.function.IntSupplier;

/** Counts the answers that are not the ones due, and looks at all that an object shows. */
final class Due {
    private static int wrong = 0;

    static final int[] ODD_INTS = {
        Integer.MIN_VALUE, Integer.MIN_VALUE + 1, -257, -33, -17, -16, -11, -5, -4, -3, -2, -1,
        16, 17, 31, 32, 33, 255, 256, 65536, Integer.MAX_VALUE - 1, Integer.MAX_VALUE
    };

    private Due() {
    }

    static void is(String what, int got, int want) {
        if (got != want) {
            wrong++;
            System.out.println(what + " answered " + got + ", due is " + want);
        }
    }

    static void holds(String what, boolean holds) {
        if (!holds) {
            wrong++;
            System.out.println("does not hold: " + what);
        }
    }

    /** A call that must answer this and change nothing that can be seen. */
    static void still(HornProtocol x, String what, IntSupplier call, int want) {
        List<Integer> before = all(x);
        is(what, call.getAsInt(), want);
        holds(what + " changes nothing", before.equals(all(x)));
    }

    /** Every answer that a method which only looks can give. */
    static List<Integer> all(HornProtocol x) {
        List<Integer> seen = new ArrayList<>();
        for (int what = -1; what <= 7; what++) {
            seen.add(x.count(what));
        }
        for (int h = -1; h <= 16; h++) {
            seen.add(x.kindOf(h));
            seen.add(x.child(h, 0));
            seen.add(x.child(h, 1));
            for (int vx = 0; vx < 5; vx++) {
                for (int vy = 0; vy < 5; vy++) {
                    seen.add(x.groundId(h, vx, vy));
                    seen.add(x.rank(h, vx, vy));
                }
            }
        }
        for (int i = -1; i <= 8; i++) {
            seen.add(x.entry(i));
            seen.add(x.ruleTerm(i, 0));
            seen.add(x.ruleTerm(i, 1));
            seen.add(x.ruleTerm(i, 2));
        }
        for (int j = -1; j <= 32; j++) {
            seen.add(x.stepFact(j));
        }
        return seen;
    }

    static void end() {
        if (wrong != 0) {
            System.out.println(wrong + " answers are not as due");
            System.exit(1);
        }
    }
}
