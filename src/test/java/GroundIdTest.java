/** Promise 7. */
public final class GroundIdTest {
    public static void main(String[] args) {
        ids();
        leastIdWins();
        refusals();
        Due.end();
    }

    private static void ids() {
        HornProtocol x = new HornProtocol(3, 16, 8);
        int vx = x.make(HornProtocol.VAR, 0, 0);
        int vy = x.make(HornProtocol.VAR, 1, 0);
        int both = x.make(HornProtocol.PAIR, vx, vy);
        int pky = x.make(HornProtocol.PK, vy, 0);
        int twice = x.make(HornProtocol.SENC, vx, vx);
        int alike = x.make(HornProtocol.AENC, vx, vx);
        for (int n = 0; n < 3; n++) {
            for (int m = 0; m < 3; m++) {
                int s = n + 4 * m;
                Due.is("a name", x.groundId(1, n, m), 16);
                Due.is("x", x.groundId(vx, n, m), n * 16);
                Due.is("y", x.groundId(vy, n, m), m * 16);
                Due.is("(x,y)", x.groundId(both, n, m), both * 16 + s);
                Due.is("PK(y)", x.groundId(pky, n, m), pky * 16 + 4 * m);
                Due.is("SENC(x,x)", x.groundId(twice, n, m), twice * 16 + n);
                Due.is("AENC(x,x)", x.groundId(alike, n, m), alike * 16 + n);
            }
        }
    }

    private static void leastIdWins() {
        HornProtocol x = new HornProtocol(4, 16, 8);
        int vx = x.make(HornProtocol.VAR, 0, 0);
        int vy = x.make(HornProtocol.VAR, 1, 0);
        int first = x.make(HornProtocol.PAIR, vx, 1);
        int pkFirst = x.make(HornProtocol.PK, first, 0);
        Due.is("(x,b) as (d,b)", x.groundId(first, 3, 2), first * 16 + 3);
        int second = x.make(HornProtocol.PAIR, vy, vx);
        int ground = x.make(HornProtocol.PAIR, 3, 1);
        int pkGround = x.make(HornProtocol.PK, ground, 0);
        Due.is("(x,b) afterwards", x.groundId(first, 3, 2), first * 16 + 3);
        Due.is("(y,x) as (d,b)", x.groundId(second, 1, 3), first * 16 + 3);
        Due.is("(y,x) as (b,d)", x.groundId(second, 3, 1), second * 16 + 7);
        Due.is("(d,b)", x.groundId(ground, 2, 2), first * 16 + 3);
        Due.is("PK((d,b))", x.groundId(pkGround, 0, 0), pkFirst * 16 + 3);
        int before = x.groundId(second, 3, 1);
        Due.still(x, "a look in BUILD", () -> x.groundId(ground, 2, 2), first * 16 + 3);
        x.saturate();
        Due.still(x, "a look in READY", () -> x.groundId(second, 3, 1), before);
    }

    private static void refusals() {
        HornProtocol x = new HornProtocol(2, 16, 8);
        for (int round = 0; round < 2; round++) {
            Due.still(x, "the next handle", () -> x.groundId(2, 0, 0), -5);
            Due.still(x, "no handle, no name", () -> x.groundId(2, 2, 2), -5);
            Due.still(x, "vx is N", () -> x.groundId(0, 2, 0), -4);
            Due.still(x, "vy is N", () -> x.groundId(0, 0, 2), -4);
            for (int odd : Due.ODD_INTS) {
                Due.still(x, "h " + odd, () -> x.groundId(odd, 0, 0), -5);
                Due.still(x, "vx " + odd, () -> x.groundId(1, odd, 0), -4);
                Due.still(x, "vy " + odd, () -> x.groundId(1, 0, odd), -4);
            }
            x.saturate();
        }
    }
}
