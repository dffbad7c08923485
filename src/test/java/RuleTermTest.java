/** Promise 12. */
public final class RuleTermTest {
    public static void main(String[] args) {
        HornProtocol x = new HornProtocol(4, 16, 8);
        int[][] given = {{-1, -1, 3}, {1, -1, 2}, {-1, 2, 1}, {0, 3, 2}, {1, 1, 1}, {3, 0, 0},
            {-1, 0, 0}, {2, -1, 3}};
        int[][] held = {{-1, -1, 3}, {1, -1, 2}, {2, -1, 1}, {0, 3, 2}, {1, 1, 1}, {3, 0, 0},
            {0, -1, 0}, {2, -1, 3}};
        look(x, held, 0);
        for (int r = 0; r < 8; r++) {
            x.rule(given[r][0], given[r][1], given[r][2]);
            look(x, held, r + 1);
        }
        x.saturate();
        look(x, held, 8);
        Due.end();
    }

    private static void look(HornProtocol x, int[][] held, int rules) {
        for (int i = 0; i < 10; i++) {
            int r = i;
            for (int j = 0; j < 3; j++) {
                int w = j;
                int due = r < rules ? held[r][w] : -4;
                Due.still(x, "ruleTerm " + r + " " + w, () -> x.ruleTerm(r, w), due);
            }
            Due.still(x, "ruleTerm " + r + " 3", () -> x.ruleTerm(r, 3), -4);
        }
        for (int odd : Due.ODD_INTS) {
            Due.still(x, "r " + odd, () -> x.ruleTerm(odd, 0), -4);
            Due.still(x, "which " + odd, () -> x.ruleTerm(0, odd), -4);
        }
    }
}
