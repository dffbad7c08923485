/** Promise 1. */
public final class ConstructionTest {
    public static void main(String[] args) {
        int[] given = {Integer.MIN_VALUE, -1, 0, 1, 2, 3, 4, 5, 7, 8, 9, 15, 16, 17, 31, 32, 33,
            Integer.MAX_VALUE};
        for (int v : given) {
            names(v);
            terms(v);
            steps(v);
        }
        Due.end();
    }

    private static int clamped(int value, int least, int most) {
        return Math.max(least, Math.min(most, value));
    }

    private static void names(int given) {
        HornProtocol x = new HornProtocol(given, 16, 16);
        int n = clamped(given, 2, 4);
        String who = "names " + given + ": ";
        Due.is(who + "C_TERMS", x.count(HornProtocol.C_TERMS), n);
        Due.is(who + "C_KNOW", x.count(HornProtocol.C_KNOW), 0);
        Due.is(who + "C_RULES", x.count(HornProtocol.C_RULES), 0);
        Due.is(who + "C_STEPS", x.count(HornProtocol.C_STEPS), 0);
        Due.is(who + "C_PHASE", x.count(HornProtocol.C_PHASE), HornProtocol.BUILD);
        Due.is(who + "C_UNIVERSE", x.count(HornProtocol.C_UNIVERSE), n);
        for (int i = 0; i < 5; i++) {
            boolean there = i < n;
            Due.is(who + "kindOf " + i, x.kindOf(i), there ? HornProtocol.NAME : -5);
            Due.is(who + "left " + i, x.child(i, 0), there ? i : -5);
            Due.is(who + "right " + i, x.child(i, 1), there ? -1 : -5);
            Due.is(who + "groundId of vx " + i, x.groundId(0, i, 0), there ? 0 : -4);
            Due.is(who + "groundId of vy " + i, x.groundId(0, 0, i), there ? 0 : -4);
        }
    }

    private static void terms(int given) {
        HornProtocol x = new HornProtocol(2, given, 8);
        int t = clamped(given, 8, 16);
        int last = 1;
        for (int h = 2; h < t; h++) {
            last = x.make(HornProtocol.PK, last, 0);
            Due.is("terms " + given + ": make " + h, last, h);
        }
        Due.is("terms " + given + ": one more", x.make(HornProtocol.PK, last, 0), -6);
        Due.is("terms " + given + ": C_TERMS", x.count(HornProtocol.C_TERMS), t);
    }

    private static void steps(int given) {
        HornProtocol x = new HornProtocol(2, 8, given);
        int p = clamped(given, 8, 32);
        x.know(1);
        x.saturate();
        for (int j = 0; j < p; j++) {
            Due.is("steps " + given + ": step " + j, x.step(HornProtocol.S_INIT, 0, 0, 0), j);
        }
        Due.is("steps " + given + ": one more", x.step(HornProtocol.S_INIT, 0, 0, 0), -6);
        Due.is("steps " + given + ": C_STEPS", x.count(HornProtocol.C_STEPS), p);
    }
}
