/** Promise 11. */
public final class EntryTest {
    public static void main(String[] args) {
        HornProtocol x = new HornProtocol(4, 16, 8);
        x.make(HornProtocol.PK, 3, 0);
        int[] known = {3, 4, 0, 4, 2, 1, 0, 3};
        look(x, known, 0);
        for (int i = 0; i < 8; i++) {
            x.know(known[i]);
            look(x, known, i + 1);
        }
        x.saturate();
        look(x, known, 8);
        Due.end();
    }

    private static void look(HornProtocol x, int[] known, int held) {
        for (int i = 0; i < 10; i++) {
            int k = i;
            Due.still(x, "entry " + k, () -> x.entry(k), k < held ? known[k] : -4);
        }
        for (int odd : Due.ODD_INTS) {
            Due.still(x, "entry " + odd, () -> x.entry(odd), -4);
        }
    }
}
