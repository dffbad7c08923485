/** Promise 9. */
public final class StepFactTest {
    public static void main(String[] args) {
        HornProtocol x = new HornProtocol(4, 16, 8);
        int v = x.make(HornProtocol.VAR, 0, 0);
        int open = x.make(HornProtocol.PK, v, 0);
        int ground = x.make(HornProtocol.PK, 3, 0);
        x.know(3);
        x.know(ground);
        Due.still(x, "stepFact in BUILD", () -> x.stepFact(0), -9);
        Due.still(x, "stepFact -1 in BUILD", () -> x.stepFact(-1), -9);
        x.saturate();
        int[] due = {48, open * 16 + 3, open * 16 + 3, 48, 48, 48, 48, 48};
        int[][] calls = {{0, 0}, {4, 0}, {0, 1}, {0, 0}, {0, 0}, {0, 0}, {0, 0}, {0, 0}};
        for (int j = 0; j < 8; j++) {
            int next = j;
            Due.still(x, "the next step", () -> x.stepFact(next), -9);
            for (int odd : Due.ODD_INTS) {
                Due.still(x, "stepFact " + odd, () -> x.stepFact(odd), -9);
            }
            Due.is("step " + j, x.step(calls[j][0], calls[j][1], 0, 0), j);
            for (int i = 0; i <= j; i++) {
                int k = i;
                Due.still(x, "stepFact " + i, () -> x.stepFact(k), due[k]);
            }
        }
        Due.still(x, "past the last", () -> x.stepFact(8), -9);
        Due.end();
    }
}
