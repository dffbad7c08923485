/** Promise 10. */
public final class KindAndChildTest {
    public static void main(String[] args) {
        HornProtocol x = new HornProtocol(3, 16, 8);
        int[][] terms = {{0, 0, -1}, {0, 1, -1}, {0, 2, -1}, {1, 1, -1}, {1, 0, -1}, {2, 2, 4},
            {3, 5, 1}, {4, 6, 3}, {5, 7, -1}};
        for (int h = 3; h < terms.length; h++) {
            Due.is("make " + h, x.make(terms[h][0], terms[h][1], terms[h][2]), h);
        }
        look(x, terms);
        x.know(0);
        x.saturate();
        look(x, terms);
        x.step(HornProtocol.S_INIT, 0, 0, 0);
        look(x, terms);
        Due.end();
    }

    private static void look(HornProtocol x, int[][] terms) {
        for (int i = 0; i < terms.length; i++) {
            int h = i;
            Due.still(x, "kindOf " + h, () -> x.kindOf(h), terms[h][0]);
            Due.still(x, "left " + h, () -> x.child(h, 0), terms[h][1]);
            Due.still(x, "right " + h, () -> x.child(h, 1), terms[h][2]);
            Due.still(x, "child 2 of " + h, () -> x.child(h, 2), -4);
            for (int odd : Due.ODD_INTS) {
                Due.still(x, "child " + odd + " of " + h, () -> x.child(h, odd), -4);
            }
        }
        int next = terms.length;
        Due.still(x, "kindOf the next", () -> x.kindOf(next), -5);
        Due.still(x, "child of the next", () -> x.child(next, 0), -5);
        Due.still(x, "child 2 of the next", () -> x.child(next, 2), -5);
        for (int odd : Due.ODD_INTS) {
            Due.still(x, "kindOf " + odd, () -> x.kindOf(odd), -5);
            Due.still(x, "child of " + odd, () -> x.child(odd, 1), -5);
            Due.still(x, "child of " + odd, () -> x.child(odd, odd), -5);
        }
    }
}
