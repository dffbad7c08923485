/** Promise 3. */
public final class KnowTest {
    public static void main(String[] args) {
        HornProtocol x = new HornProtocol(2, 16, 8);
        int vx = x.make(HornProtocol.VAR, 0, 0);
        int vy = x.make(HornProtocol.VAR, 1, 0);
        int pair = x.make(HornProtocol.PAIR, 0, 1);
        int pk = x.make(HornProtocol.PK, 0, 0);
        int[] open = {vx, vy, x.make(HornProtocol.PK, vy, 0), x.make(HornProtocol.PAIR, 0, vx),
            x.make(HornProtocol.SENC, vy, 1), x.make(HornProtocol.AENC, pair, vx)};
        int deep = x.make(HornProtocol.SENC, pair, pk);
        int deepOpen = x.make(HornProtocol.PAIR, deep, open[2]);
        int[] asked = {0, 0, pair, deep, 1, pk, deep};
        for (int i = 0; i < asked.length; i++) {
            Due.is("know " + asked[i], x.know(asked[i]), i);
            Due.is("C_KNOW", x.count(HornProtocol.C_KNOW), i + 1);
            refusals(x, open, deepOpen);
        }
        Due.is("know the last", x.know(1), 7);
        for (int i = 0; i < asked.length; i++) {
            Due.is("entry " + i, x.entry(i), asked[i]);
        }
        Due.is("entry 7", x.entry(7), 1);
        refusals(x, open, deepOpen);
        Due.still(x, "a ninth", () -> x.know(0), -6);
        Due.still(x, "a ninth", () -> x.know(deep), -6);

        x.saturate();
        Due.still(x, "know in READY", () -> x.know(0), -2);
        Due.still(x, "no handle in READY", () -> x.know(-1), -2);
        Due.still(x, "a variable in READY", () -> x.know(vx), -2);
        Due.end();
    }

    private static void refusals(HornProtocol x, int[] open, int deepOpen) {
        for (int h : open) {
            Due.still(x, "know open " + h, () -> x.know(h), -7);
        }
        Due.still(x, "know deep open", () -> x.know(deepOpen), -7);
        int next = x.count(HornProtocol.C_TERMS);
        Due.still(x, "know the next handle", () -> x.know(next), -5);
        for (int odd : Due.ODD_INTS) {
            Due.still(x, "know " + odd, () -> x.know(odd), -5);
        }
    }
}
