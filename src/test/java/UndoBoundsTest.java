import java.io.IOException;

/** The bounds of promises 29 to 31, and what errors leave: saved states, the seventh, empty slots. */
public final class UndoBoundsTest {
    private static final int BAD = Sentences.BAD;
    private static final int STATE = Sentences.STATE;
    private static final int LEAST = Sentences.LEAST;
    private static final int MOST = Sentences.MOST;

    private final Sentences doc = new Sentences();

    private UndoBoundsTest() throws IOException {
    }

    public static void main(String[] args) throws IOException {
        UndoBoundsTest t = new UndoBoundsTest();
        t.promise29();
        t.promise29SavesAtMostSix();
        t.promise29SavesBeforeEachChange();
        t.promise29SavesNothingElse();
        t.promise30();
        t.promise31();
        t.promise31KeepsAndDiscards();
        t.constants();
        t.doc.covers(29, 31);
        t.doc.end();
    }

    private void promise29() {
        doc.says(29, "ILLEGAL_STATE if none was saved");
        doc.changesNothing("a new object", new LieAlgebra(), new LieAlgebra(), STATE, LieAlgebra::undo);
        doc.changesNothing("all undone", undone(3), undone(3), STATE, LieAlgebra::undo);
        doc.changesNothing("seven saved, six undone", undone(7), undone(7), STATE, LieAlgebra::undo);
        doc.changesNothing("just restored", restored(), restored(), STATE, LieAlgebra::undo);
        LieAlgebra x = undone(2);
        doc.due("again", x.undo(), STATE);
        doc.due("and again", x.undo(), STATE);
        x.setBracket(0, 1, 5);
        doc.due("saved after the error", x.undo(), 0);
        doc.says(29, "Returns the number of states that are still saved");
        for (int saves = 1; saves <= 6; saves++) {
            LieAlgebra y = changed(saves);
            for (int left = saves - 1; left >= 0; left--) {
                doc.due("undo() after " + saves + " changes", y.undo(), left);
            }
            doc.due("no more", y.undo(), STATE);
        }
    }

    /** [e0, e1] is set to 1, 2, 3 and so on. */
    private static LieAlgebra changed(int times) {
        LieAlgebra x = new LieAlgebra();
        for (int value = 1; value <= times; value++) {
            x.setBracket(0, 1, value);
        }
        return x;
    }

    private static LieAlgebra undone(int times) {
        LieAlgebra x = changed(times);
        for (int k = 0; k < Math.min(times, 6); k++) {
            x.undo();
        }
        return x;
    }

    private static LieAlgebra restored() {
        LieAlgebra x = changed(6);
        x.save(1);
        x.restore(1);
        return x;
    }

    private void promise29SavesAtMostSix() {
        doc.says(29, "At most 6 states are saved; when a seventh is saved, the oldest one is discarded.");
        for (int saves = 0; saves <= 26; saves++) {
            LieAlgebra x = changed(saves);
            int kept = Math.min(saves, 6);
            for (int k = 1; k <= kept; k++) {
                doc.due(saves + " saved, undo() " + k, x.undo(), kept - k);
                doc.due("the state", x.bracket(1, 3), saves - k);
            }
            doc.due(saves + " saved, all undone", x.undo(), STATE);
            doc.due("the oldest state that was kept", x.bracket(1, 3), saves - kept);
        }
        doc.says(29, "undo() restores the most recently saved state and discards it");
        for (int first = 0; first <= 8; first++) {
            for (int back = 0; back <= Math.min(first, 6); back++) {
                for (int more = 0; more <= 8; more++) {
                    forthAndBack(first, back, more);
                }
            }
        }
    }

    /** Changes, undoes some of them, changes again, and undoes all that there is. */
    private void forthAndBack(int first, int back, int more) {
        String told = first + " changes, " + back + " undone, " + more + " changes: ";
        LieAlgebra x = changed(first);
        int kept = Math.min(first, 6);
        for (int k = 0; k < back; k++) {
            doc.due(told + "undo()", x.undo(), kept - k - 1);
        }
        int stands = first - back;
        for (int k = 1; k <= more; k++) {
            doc.due(told + "setBracket", x.setBracket(0, 1, stands + k), stands + k - 1);
        }
        int left = Math.min(kept - back + more, 6);
        for (int k = 1; k <= left; k++) {
            doc.due(told + "undo() at the end", x.undo(), left - k);
            doc.due(told + "the state", x.bracket(1, 3), stands + more - k);
        }
        doc.due(told + "no more", x.undo(), STATE);
    }

    private void promise29SavesBeforeEachChange() {
        doc.says(29, "Every successful call of configure(), setBracket(), loadText(), addBasis(), scaleBasis() and"
                + " swapBasis() saves the state that preceded it");
        savesOne("configure(7, 5)", x -> x.configure(7, 5));
        savesOne("configure(3, 3)", x -> x.configure(3, 3));
        savesOne("configure(2, 1)", x -> x.configure(2, 1));
        savesOne("setBracket(0, 1, 26)", x -> x.setBracket(0, 1, 26));
        savesOne("setBracket, as it is", x -> x.setBracket(0, 1, x.bracket(1, 3)));
        savesOne("loadText()", x -> Tables.load(x, "[0,1]=e0;[1,2]=e1;"));
        savesOne("loadText(), zero", x -> Tables.load(x, "[0,1]=0;"));
        savesOne("addBasis(0, 1, 2)", x -> x.addBasis(0, 1, 2));
        savesOne("scaleBasis(0, 2)", x -> x.scaleBasis(0, 2));
        savesOne("scaleBasis(0, 1)", x -> x.scaleBasis(0, 1));
        savesOne("swapBasis(0, 2)", x -> x.swapBasis(0, 2));
        doc.says(29, "The state consists of p, n and the brackets.");
        LieAlgebra x = Sentences.full(7, 5);
        String before = Sentences.state(x);
        x.configure(2, 1);
        doc.due("undo() of configure(2, 1)", x.undo(), 5);
        doc.holds("p, n and the brackets are back", Sentences.state(x).equals(before));
        doc.due("the text is no part of it", x.clearText(), 120);
        doc.due("nor are the slots", x.restore(1), 5);
    }

    /** As the first, the sixth and the seventh that is saved. */
    private void savesOne(String call, Sentences.Call change) {
        for (int before : new int[] {0, 5, 6, 12}) {
            LieAlgebra x = changed(before);
            String state = Sentences.state(x);
            doc.holds(call + " is not refused", change.on(x) >= 0);
            doc.due(call + " after " + before + ", undo()", x.undo(), Math.min(before, 5));
            doc.holds(call + " after " + before + ", is undone", Sentences.state(x).equals(state));
            for (int k = 1; k <= Math.min(before, 5); k++) {
                doc.due(call + " after " + before + ", undo() " + k, x.undo(), Math.min(before, 5) - k);
                doc.due("the state before", x.bracket(1, 3), before - k);
            }
            doc.due(call + " after " + before + ", no more", x.undo(), STATE);
        }
    }

    private void promise29SavesNothingElse() {
        doc.says(29, "A call that returns an error code changes nothing.");
        savesNone("configure", BAD, x -> x.configure(3, 6));
        savesNone("setBracket", BAD, x -> x.setBracket(0, 1, 27));
        savesNone("append", BAD, x -> x.append(256));
        savesNone("loadText", -10, LieAlgebra::loadText);
        savesNone("addBasis", BAD, x -> x.addBasis(0, 1, 3));
        savesNone("scaleBasis", BAD, x -> x.scaleBasis(0, 3));
        savesNone("swapBasis", BAD, x -> x.swapBasis(0, 0));
        savesNone("save", BAD, x -> x.save(2));
        savesNone("restore, no such slot", BAD, x -> x.restore(2));
        savesNone("restore, empty slot", STATE, x -> x.restore(0));
        doc.says(29, "NONE is no error");
        savesNone("centerVector", Sentences.NONE, x -> x.centerVector(7));
        savesNone("derivedVector", Sentences.NONE, x -> x.derivedVector(9, 7));
    }

    private void savesNone(String call, int answer, Sentences.Call asking) {
        for (int saves : new int[] {0, 1, 6, 7}) {
            doc.changesNothing(call + " after " + saves, changed(saves), changed(saves), answer, asking);
        }
    }

    private void promise30() {
        doc.says(30, "- `slot`: 0 or 1");
        doc.takesOnly("save", 7, 5, 0, 1, (x, slot) -> x.save(slot));
        doc.takesOnly("save", 2, 1, 0, 1, (x, slot) -> x.save(slot));
        doc.says(30, "INVALID_ARGUMENT if slot is neither 0 nor 1");
        for (int slot : new int[] {LEAST, -2, -1, 2, 3, 256, 65537, MOST}) {
            doc.refuses("save(" + slot + ")", 3, 3, BAD, x -> x.save(slot));
        }
        doc.says(30, "Returns the dimension");
        for (int p : Sentences.PRIMES) {
            for (int n = 1; n <= 5; n++) {
                doc.due("save(0)", Sentences.full(p, n).save(0), n);
                doc.due("save(1)", Tables.abelian(p, n).save(1), n);
            }
        }
        doc.says(30, "There are two snapshot slots, 0 and 1.");
        LieAlgebra x = changed(1);
        x.save(0);
        doc.due("slot 1 is still empty", x.restore(1), STATE);
        x.setBracket(0, 1, 2);
        x.save(1);
        doc.due("slot 0", x.restore(0), 3);
        doc.due("its bracket", x.bracket(1, 3), 1);
        doc.due("slot 1", x.restore(1), 3);
        doc.due("its bracket", x.bracket(1, 3), 2);
        doc.says(30, "Copies the state into a snapshot slot.");
        LieAlgebra y = changed(6);
        y.save(0);
        doc.due("saves nothing for undo()", y.undo(), 5);
        y.save(0);
        y.setBracket(0, 1, 9);
        doc.due("undo() does not reach the slot", y.undo(), 5);
        doc.due("written over", y.restore(0), 3);
        doc.due("with the state that stood then", y.bracket(1, 3), 5);
    }

    private void promise31() {
        doc.says(31, "- `slot`: 0 or 1");
        doc.takesOnly("restore", 7, 5, 0, 1, (x, slot) -> x.restore(slot));
        doc.says(31, "INVALID_ARGUMENT if slot is neither 0 nor 1");
        for (int slot : new int[] {LEAST, -2, -1, 2, 3, 256, 65537, MOST}) {
            doc.refuses("restore(" + slot + ")", 3, 3, BAD, x -> x.restore(slot));
            doc.changesNothing("restore(" + slot + "), both empty", changed(7), changed(7), BAD, x -> x.restore(slot));
        }
        doc.says(31, "ILLEGAL_STATE if the slot is empty");
        for (int slot = 0; slot < 2; slot++) {
            int empty = slot;
            int used = 1 - slot;
            doc.changesNothing("both empty", changed(7), changed(7), STATE, x -> x.restore(empty));
            doc.changesNothing("the other one is in use", saved(used), saved(used), STATE, x -> x.restore(empty));
            LieAlgebra refused = changed(3);
            refused.save(2);
            refused.save(-1);
            doc.due("after save() was refused", refused.restore(slot), STATE);
        }
        doc.says(31, "Returns the dimension afterwards");
        for (int p : Sentences.PRIMES) {
            for (int n = 1; n <= 5; n++) {
                LieAlgebra x = Tables.abelian(p, n);
                x.save(1);
                x.configure(7, 6 - n);
                doc.due("restore(1)", x.restore(1), n);
                doc.due("prime()", x.prime(), p);
                doc.due("dimension()", x.dimension(), n);
            }
        }
    }

    private static LieAlgebra saved(int slot) {
        LieAlgebra x = changed(4);
        x.save(slot);
        return x;
    }

    private void promise31KeepsAndDiscards() {
        doc.says(31, "Replaces the state by a copy of the one in a snapshot slot, which is kept.");
        LieAlgebra x = Sentences.full(7, 5);
        String state = Sentences.state(x);
        for (int k = 1; k <= 3; k++) {
            x.configure(2, k);
            doc.due("restore(1)", x.restore(1), 5);
            doc.holds("the same state each time", Sentences.state(x).equals(state));
            x.setBracket(0, 1, k);
            x.addBasis(0, 1, k);
        }
        doc.says(31, "All states saved for undo() are discarded.");
        for (int saves = 0; saves <= 8; saves++) {
            LieAlgebra y = changed(saves);
            y.save(0);
            doc.due("restore(0)", y.restore(0), 3);
            doc.due("undo() after " + saves + " changes", y.undo(), STATE);
            for (int k = 1; k <= 7; k++) {
                y.setBracket(0, 1, 10 + k);
            }
            doc.due("undo() after seven more", y.undo(), 5);
            doc.due("the state before", y.bracket(1, 3), 16);
        }
        doc.says(31, "the method returns the one that its description lists first");
        doc.due("no such slot, and none in use", new LieAlgebra().restore(2), BAD);
        doc.due("no such slot below, and none in use", new LieAlgebra().restore(-1), BAD);
    }

    private void constants() {
        doc.says(29, "- `INVALID_ARGUMENT = -1`: An argument is out of range.");
        doc.due("INVALID_ARGUMENT", BAD, -1);
        doc.says(29, "- `ILLEGAL_STATE = -2`: The call is not possible in the present state.");
        doc.due("ILLEGAL_STATE", STATE, -2);
        doc.says(4, "- `CAPACITY_EXCEEDED = -3`: The text is full.");
        doc.due("CAPACITY_EXCEEDED", Sentences.FULL, -3);
        doc.says(10, "- `NONE = -9`: There is no such value.");
        doc.due("NONE", Sentences.NONE, -9);
    }
}
