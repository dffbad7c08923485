/** Promise 8. */
public final class StepTest {
    public static void main(String[] args) {
        phaseAndCapacity();
        references();
        composing();
        splitting();
        decrypting();
        ruleSteps();
        ruleReferences();
        Due.end();
    }

    private static void accepted(HornProtocol x, String what, int kind, int[] abc, int id) {
        int j = x.count(HornProtocol.C_STEPS);
        Due.is(what, x.step(kind, abc[0], abc[1], abc[2]), j);
        Due.is("C_STEPS after " + what, x.count(HornProtocol.C_STEPS), j + 1);
        Due.is("fact of " + what, x.stepFact(j), id);
    }

    private static void refused(HornProtocol x, String what, int kind, int[] abc, int error) {
        Due.still(x, what, () -> x.step(kind, abc[0], abc[1], abc[2]), error);
    }

    private static int[] of(int a, int b, int c) {
        return new int[] {a, b, c};
    }

    private static void phaseAndCapacity() {
        HornProtocol x = new HornProtocol(2, 8, 8);
        x.know(1);
        refused(x, "a step in BUILD", HornProtocol.S_INIT, of(0, 0, 0), -2);
        refused(x, "no kind in BUILD", 99, of(0, 0, 0), -2);
        x.saturate();
        for (int odd : Due.ODD_INTS) {
            refused(x, "kind " + odd, odd, of(0, 0, 0), -3);
        }
        refused(x, "kind 10", 10, of(99, 99, 99), -3);
        for (int j = 0; j < 8; j++) {
            accepted(x, "entry", HornProtocol.S_INIT, of(0, -9, 99), 16);
        }
        refused(x, "a ninth", HornProtocol.S_INIT, of(0, 0, 0), -6);
        refused(x, "a ninth, no kind", 99, of(0, 0, 0), -6);
        refused(x, "a ninth, no entry", HornProtocol.S_INIT, of(9, 0, 0), -6);
        refused(x, "a ninth, invalid", HornProtocol.S_FST, of(0, 0, 0), -6);
    }

    private static void references() {
        HornProtocol x = new HornProtocol(2, 8, 32);
        x.know(0);
        x.know(1);
        x.saturate();
        accepted(x, "entry 1", HornProtocol.S_INIT, of(1, 0, 0), 16);
        refused(x, "entry 2", HornProtocol.S_INIT, of(2, 0, 0), -4);
        int[] one = {HornProtocol.S_PK, HornProtocol.S_FST, HornProtocol.S_SND};
        int[] two = {HornProtocol.S_PAIR, HornProtocol.S_SENC, HornProtocol.S_AENC,
            HornProtocol.S_SDEC, HornProtocol.S_ADEC};
        for (int odd : Due.ODD_INTS) {
            refused(x, "entry " + odd, HornProtocol.S_INIT, of(odd, 0, 0), -4);
            for (int kind : one) {
                refused(x, "a " + odd, kind, of(odd, 0, 0), -9);
                refused(x, "b, c " + odd, kind, of(0, odd, odd), -10);
            }
            for (int kind : two) {
                refused(x, "a " + odd, kind, of(odd, 0, 0), -9);
                refused(x, "b " + odd, kind, of(0, odd, 0), -9);
                refused(x, "c " + odd, kind, of(0, 0, odd), -10);
            }
        }
        for (int kind : one) {
            refused(x, "the next step", kind, of(1, 0, 0), -9);
        }
        for (int kind : two) {
            refused(x, "a the next step", kind, of(1, 0, 0), -9);
            refused(x, "b the next step", kind, of(0, 1, 0), -9);
        }
    }

    private static void composing() {
        HornProtocol x = new HornProtocol(2, 16, 32);
        int v = x.make(HornProtocol.VAR, 1, 0);
        int pair = x.make(HornProtocol.PAIR, 0, v);
        int senc = x.make(HornProtocol.SENC, v, 1);
        int aenc = x.make(HornProtocol.AENC, 1, 0);
        int pk = x.make(HornProtocol.PK, pair, 0);
        x.know(0);
        x.know(1);
        x.saturate();
        accepted(x, "a", HornProtocol.S_INIT, of(0, 0, 0), 0);
        accepted(x, "b", HornProtocol.S_INIT, of(1, 0, 0), 16);
        accepted(x, "(a,b)", HornProtocol.S_PAIR, of(0, 1, 9), pair * 16 + 4);
        refused(x, "(b,a)", HornProtocol.S_PAIR, of(1, 0, 0), -10);
        accepted(x, "SENC(a,b)", HornProtocol.S_SENC, of(0, 1, 9), senc * 16);
        refused(x, "SENC(b,a)", HornProtocol.S_SENC, of(1, 0, 0), -10);
        accepted(x, "AENC(b,a)", HornProtocol.S_AENC, of(1, 0, 9), aenc * 16);
        refused(x, "AENC(a,b)", HornProtocol.S_AENC, of(0, 1, 0), -10);
        accepted(x, "PK((a,b))", HornProtocol.S_PK, of(2, 9, 9), pk * 16 + 4);
        refused(x, "PK(a)", HornProtocol.S_PK, of(0, 0, 0), -10);
        refused(x, "PK(PK)", HornProtocol.S_PK, of(5, 0, 0), -10);
    }

    private static void splitting() {
        HornProtocol x = new HornProtocol(3, 16, 32);
        int inner = x.make(HornProtocol.PAIR, 1, 2);
        int outer = x.make(HornProtocol.PAIR, inner, 0);
        int senc = x.make(HornProtocol.SENC, 1, 2);
        int aenc = x.make(HornProtocol.AENC, 1, 2);
        int pk = x.make(HornProtocol.PK, 1, 0);
        x.know(outer);
        x.know(senc);
        x.know(aenc);
        x.know(pk);
        x.saturate();
        for (int i = 0; i < 4; i++) {
            accepted(x, "entry", HornProtocol.S_INIT, of(i, 0, 0), x.entry(i) * 16);
        }
        for (int j = 1; j < 4; j++) {
            refused(x, "FST of no pair", HornProtocol.S_FST, of(j, 0, 0), -10);
            refused(x, "SND of no pair", HornProtocol.S_SND, of(j, 0, 0), -10);
        }
        accepted(x, "FST", HornProtocol.S_FST, of(0, 9, 9), inner * 16);
        accepted(x, "SND", HornProtocol.S_SND, of(0, 9, 9), 0);
        accepted(x, "FST of FST", HornProtocol.S_FST, of(4, 0, 0), 16);
        accepted(x, "SND of FST", HornProtocol.S_SND, of(4, 0, 0), 32);
        refused(x, "FST of a name", HornProtocol.S_FST, of(6, 0, 0), -10);
        refused(x, "SND of a name", HornProtocol.S_SND, of(6, 0, 0), -10);
    }

    private static void decrypting() {
        HornProtocol x = new HornProtocol(4, 16, 32);
        int pk = x.make(HornProtocol.PK, 1, 0);
        int senc = x.make(HornProtocol.SENC, 0, 1);
        int sencPk = x.make(HornProtocol.SENC, 2, pk);
        int aenc = x.make(HornProtocol.AENC, 3, pk);
        int aencName = x.make(HornProtocol.AENC, 2, 1);
        int pair = x.make(HornProtocol.PAIR, 2, 1);
        int[] known = {1, pk, senc, sencPk, aenc, aencName, pair, 3};
        for (int h : known) {
            x.know(h);
        }
        x.saturate();
        for (int j = 0; j < 8; j++) {
            accepted(x, "entry " + j, HornProtocol.S_INIT, of(j, 0, 0), known[j] * 16);
        }
        accepted(x, "SDEC", HornProtocol.S_SDEC, of(2, 0, 99), 0);
        accepted(x, "SDEC under a PK", HornProtocol.S_SDEC, of(3, 1, 99), 32);
        accepted(x, "ADEC", HornProtocol.S_ADEC, of(4, 0, 99), 48);
        for (int a = 0; a < 8; a++) {
            for (int b = 0; b < 8; b++) {
                boolean opens = a == 2 && b == 0 || a == 3 && b == 1;
                if (!opens) {
                    refused(x, "SDEC " + a + " " + b, HornProtocol.S_SDEC, of(a, b, 0), -10);
                }
                if (a != 4 || b != 0) {
                    refused(x, "ADEC " + a + " " + b, HornProtocol.S_ADEC, of(a, b, 0), -10);
                }
            }
        }
    }

    /** Rules over (x,y), PK(x) and names; the names b, c and (b,c), PK(b) are at hand. */
    private static void ruleSteps() {
        HornProtocol x = new HornProtocol(4, 16, 32);
        int vx = x.make(HornProtocol.VAR, 0, 0);
        int vy = x.make(HornProtocol.VAR, 1, 0);
        int both = x.make(HornProtocol.PAIR, vx, vy);
        int turned = x.make(HornProtocol.SENC, vy, vx);
        int pkx = x.make(HornProtocol.PK, vx, 0);
        int fix = x.make(HornProtocol.PAIR, 1, 2);
        x.know(1);
        x.know(2);
        x.know(fix);
        Due.is("rule 0", x.rule(-1, -1, 0), 0);
        Due.is("rule 1", x.rule(both, -1, turned), 1);
        Due.is("rule 2", x.rule(pkx, both, turned), 2);
        Due.is("rule 3", x.rule(vx, vx, pkx), 3);
        Due.is("rule 4", x.rule(-1, vy, vy), 4);
        Due.is("rule 5", x.rule(1, 2, fix), 5);
        x.saturate();
        accepted(x, "b", HornProtocol.S_INIT, of(0, 0, 0), 16);
        accepted(x, "c", HornProtocol.S_INIT, of(1, 0, 0), 32);
        accepted(x, "(b,c)", HornProtocol.S_INIT, of(2, 0, 0), both * 16 + 9);
        accepted(x, "PK(b)", HornProtocol.S_PK, of(0, 0, 0), pkx * 16 + 1);
        accepted(x, "rule 0", HornProtocol.S_RULE, of(0, -1, 99), 0);
        accepted(x, "rule 1", HornProtocol.S_RULE, of(1, 2, -1), turned * 16 + 9);
        refused(x, "rule 1 on b", HornProtocol.S_RULE, of(1, 0, 2), -10);
        accepted(x, "rule 2", HornProtocol.S_RULE, of(2, 3, 2), turned * 16 + 9);
        refused(x, "rule 2 turned round", HornProtocol.S_RULE, of(2, 2, 3), -10);
        accepted(x, "PK(c)", HornProtocol.S_PK, of(1, 0, 0), pkx * 16 + 2);
        refused(x, "rule 2 under two assignments", HornProtocol.S_RULE, of(2, 7, 2), -10);
        accepted(x, "rule 3", HornProtocol.S_RULE, of(3, 1, 1), pkx * 16 + 2);
        refused(x, "rule 3 on two names", HornProtocol.S_RULE, of(3, 0, 1), -10);
        refused(x, "rule 3 on a pair", HornProtocol.S_RULE, of(3, 2, 2), -10);
        accepted(x, "rule 4", HornProtocol.S_RULE, of(4, 1, 99), 32);
        refused(x, "rule 4 on a pair", HornProtocol.S_RULE, of(4, 2, 1), -10);
        accepted(x, "rule 5", HornProtocol.S_RULE, of(5, 0, 1), both * 16 + 9);
        refused(x, "rule 5, second is wrong", HornProtocol.S_RULE, of(5, 0, 0), -10);
        refused(x, "rule 5, first is wrong", HornProtocol.S_RULE, of(5, 1, 1), -10);
    }

    private static void ruleReferences() {
        HornProtocol x = new HornProtocol(2, 8, 32);
        x.know(0);
        x.rule(-1, -1, 1);
        x.rule(0, -1, 1);
        x.rule(0, 0, 1);
        x.saturate();
        refused(x, "no step yet", HornProtocol.S_RULE, of(1, 0, 0), -9);
        accepted(x, "entry", HornProtocol.S_INIT, of(0, 0, 0), 0);
        refused(x, "the next rule", HornProtocol.S_RULE, of(3, 0, 0), -4);
        refused(x, "the next rule, no step", HornProtocol.S_RULE, of(3, 9, 9), -4);
        for (int odd : Due.ODD_INTS) {
            refused(x, "rule " + odd, HornProtocol.S_RULE, of(odd, 0, 0), -4);
            refused(x, "b " + odd, HornProtocol.S_RULE, of(1, odd, 0), -9);
            refused(x, "b " + odd, HornProtocol.S_RULE, of(2, odd, 0), -9);
            refused(x, "c " + odd, HornProtocol.S_RULE, of(2, 0, odd), -9);
        }
        refused(x, "b the next step", HornProtocol.S_RULE, of(1, 1, 0), -9);
        refused(x, "c the next step", HornProtocol.S_RULE, of(2, 0, 1), -9);
        accepted(x, "b, c unused", HornProtocol.S_RULE, of(0, 99, -7), 16);
        accepted(x, "c unused", HornProtocol.S_RULE, of(1, 0, -7), 16);
        accepted(x, "both used", HornProtocol.S_RULE, of(2, 0, 0), 16);
    }
}
