import java.util.List;
import java.util.function.IntSupplier;

/** Counts the answers that are not the ones due, and what else does not hold. */
final class Due {
    private static int wrong = 0;

    /** Ints that are no handle; some wrap round to a good one when they are multiplied or cut. */
    static final int[] ODD_INTS = {
        Integer.MIN_VALUE, Integer.MIN_VALUE + 1, -0x40000000, -65535, -257, -256, -33, -17, -16,
        -11, -5, -4, -3, -2, -1, 16, 17, 31, 32, 33, 255, 256, 257, 65536, 65537, 0x08000001,
        0x10000000, 0x10000001, 0x40000000, 0x40000001, Integer.MAX_VALUE - 1, Integer.MAX_VALUE
    };

    private Due() {
    }

    static void is(String what, int got, int want) {
        if (got != want) {
            wrong++;
            System.out.println(what + " answered " + got + ", due is " + want);
        }
    }

    static void holds(String what, boolean holds) {
        if (!holds) {
            wrong++;
            System.out.println("does not hold: " + what);
        }
    }

    /** Runs the test of one sentence of the document, and names the sentence if it fails. */
    static void sentence(String words, Runnable test) {
        int before = wrong;
        try {
            test.run();
        } catch (RuntimeException e) {
            wrong++;
            System.out.println("a call threw " + e);
        }
        if (wrong > before) {
            System.out.println("so this does not hold: " + words);
        }
    }

    /** A call that must answer this and change nothing that can be seen. */
    static void still(HornProtocol x, String what, IntSupplier call, int want) {
        List<Integer> before = Look.all(x);
        is(what, call.getAsInt(), want);
        holds(what + " changes nothing", before.equals(Look.all(x)));
    }

    static void end() {
        if (wrong != 0) {
            System.out.println(wrong + " answers are not as due");
            System.exit(1);
        }
    }
}
