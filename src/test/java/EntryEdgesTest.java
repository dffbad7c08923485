/** Promise 11, sentence by sentence. */
public final class EntryEdgesTest extends Edges {
    private static final int[] ORDER = {4, 0, 3, 3, 4, 1, 2, 0};

    public static void main(String[] args) {
        Due.sentence("`entry(i)`: i not in 0..count(C_KNOW)-1: ERR_RANGE", EntryEdgesTest::range);
        Due.sentence("else the handle of knowledge entry i.", EntryEdgesTest::handles);
        Due.sentence("Any phase; changes nothing.", EntryEdgesTest::anyPhase);
        Due.end();
    }

    /** So many entries, in the order above; 4 is PK(x)'s instance PK(b), 5 is x, 6 is PK(x). */
    private static Scene held(int entries) {
        Scene held = scene(4, 16, 8, make(PK, 1, 0), make(VAR, 0, 0), make(PK, 5, 0));
        for (int i = 0; i < entries; i++) {
            held = held.then(know(ORDER[i]));
        }
        return held;
    }

    private static void range() {
        for (int entries = 0; entries <= 8; entries++) {
            for (int i : outside(0, entries - 1)) {
                held(entries).keeps(entry(i), ERR_RANGE);
                held(entries).then(saturate()).keeps(entry(i), ERR_RANGE);
            }
            held(entries).keeps(entry(8), ERR_RANGE);
        }
        // A refused know is no entry.
        HornProtocol x = held(2).play();
        Due.is("know a term with a VAR", x.know(6), ERR_NOT_GROUND);
        Due.is("entry(2)", x.entry(2), ERR_RANGE);
    }

    private static void handles() {
        for (int entries = 1; entries <= 8; entries++) {
            for (int i = 0; i < entries; i++) {
                held(entries).keeps(entry(i), ORDER[i]);
            }
        }
        // The handle that was given, though an earlier one has the same ground term.
        Scene later = scene(2, 8, 8, make(VAR, 0, 0), make(PK, 2, 0), make(PK, 1, 0), know(4));
        later.keeps(groundId(4, 0, 0), 3 * 16 + 1);
        later.keeps(entry(0), 4);
    }

    private static void anyPhase() {
        Scene done = held(8).then(saturate());
        Scene[] phases = {held(8), done, done.times(8, step(S_INIT, 7, 0, 0))};
        for (Scene phase : phases) {
            for (int i = 0; i < 8; i++) {
                phase.keeps(entry(i), ORDER[i]);
            }
            phase.keeps(entry(-1), ERR_RANGE);
            phase.keeps(entry(8), ERR_RANGE);
        }
        // Here there is room for entries that a look could take away.
        for (int i = -1; i < 4; i++) {
            held(3).keeps(entry(i), i >= 0 && i < 3 ? ORDER[i] : ERR_RANGE);
        }
    }
}
