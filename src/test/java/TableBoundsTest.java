import java.io.IOException;

/** The bounds of promises 1 to 5 and 7 to 10: a new object, the table, the text's length, brackets. */
public final class TableBoundsTest {
    private static final int BAD = Sentences.BAD;
    private static final int STATE = Sentences.STATE;
    private static final int FULL = Sentences.FULL;
    private static final int NONE = Sentences.NONE;
    private static final int LEAST = Sentences.LEAST;
    private static final int MOST = Sentences.MOST;

    private final Sentences doc = new Sentences();

    private TableBoundsTest() throws IOException {
    }

    public static void main(String[] args) throws IOException {
        TableBoundsTest t = new TableBoundsTest();
        t.promise1();
        t.promise1Uses512Calls();
        t.promise2();
        t.promise2BeginsAnew();
        t.promise3();
        t.promise3Negatives();
        t.promise4();
        t.promise5();
        t.promise7And8();
        t.promise9();
        t.promise9Arithmetic();
        t.promise10();
        t.doc.covers(1, 5);
        t.doc.covers(7, 10);
        t.doc.end();
    }

    private void promise1() {
        doc.says(1, "Creates a workbench with p = 3, n = 3, all brackets 0, and an empty text.");
        LieAlgebra x = new LieAlgebra();
        doc.due("prime()", x.prime(), 3);
        doc.due("dimension()", x.dimension(), 3);
        doc.due("bracket(26, 26)", x.bracket(26, 26), 0);
        doc.due("bracket(27, 0)", x.bracket(27, 0), BAD);
        doc.due("loadText()", x.loadText(), -10);
        doc.due("clearText()", x.clearText(), 0);
        doc.says(1, "(at first 3)");
        doc.due("setBracket(2, 1, 26)", new LieAlgebra().setBracket(2, 1, 26), 0);
        doc.due("setBracket(3, 1, 26)", new LieAlgebra().setBracket(3, 1, 26), BAD);
        doc.due("setBracket(2, 1, 27)", new LieAlgebra().setBracket(2, 1, 27), BAD);
        doc.due("scaleBasis(2, 2)", new LieAlgebra().scaleBasis(2, 2), 0);
        doc.due("scaleBasis(2, 3)", new LieAlgebra().scaleBasis(2, 3), BAD);
        doc.says(1, "At first all brackets are 0.");
        for (int u = 0; u < 27; u++) {
            for (int v = 0; v < 27; v++) {
                doc.due("bracket(" + u + ", " + v + ")", x.bracket(u, v), 0);
            }
        }
        doc.says(1, "ILLEGAL_STATE if none was saved");
        doc.due("undo()", x.undo(), STATE);
        doc.says(1, "ILLEGAL_STATE if the slot is empty");
        doc.due("restore(0)", x.restore(0), STATE);
        doc.due("restore(1)", x.restore(1), STATE);
    }

    /** One object for each kind of call; the last of its 512 calls answers like the first. */
    private void promise1Uses512Calls() {
        doc.says(1, "An object is used for at most 512 calls after it has been made");
        LieAlgebra sets = new LieAlgebra();
        LieAlgebra configures = new LieAlgebra();
        LieAlgebra scales = new LieAlgebra();
        LieAlgebra slots = new LieAlgebra();
        for (int k = 1; k <= 512; k++) {
            doc.due("setBracket, call " + k, sets.setBracket(0, 1, k % 27), (k - 1) % 27);
            doc.due("configure, call " + k, configures.configure(7, 1 + k % 5), Sentences.unit(7, 1 + k % 5));
            doc.due("scaleBasis, call " + k, scales.scaleBasis(k % 3, 2), 0);
            doc.due("save, call " + k, slots.save(k % 2), 3);
        }
        LieAlgebra swaps = new LieAlgebra();
        LieAlgebra adds = new LieAlgebra();
        LieAlgebra asks = new LieAlgebra();
        swaps.setBracket(0, 1, 9);
        adds.setBracket(0, 1, 9);
        asks.setBracket(0, 1, 9);
        for (int k = 2; k <= 512; k++) {
            doc.due("swapBasis, call " + k, swaps.swapBasis(1, 0), k % 2 == 0 ? 9 : 18);
            doc.due("addBasis, call " + k, adds.addBasis(0, 1, 1), 9);
            doc.due("derivationDimension, call " + k, asks.derivationDimension(), 6);
        }
        LieAlgebra texts = new LieAlgebra();
        for (int calls = 10; calls <= 510; calls += 10) {
            doc.due("loadText, call " + calls, Tables.load(texts, "[0,1]=e1"), -18);
        }
        doc.due("append, call 511", texts.append(';'), 9);
        doc.due("loadText, call 512", texts.loadText(), 1);
    }

    private void promise2() {
        doc.says(2, "- `p`: 2, 3, 5 or 7");
        for (int p = -60; p <= 300; p++) {
            int wanted = p;
            if (p == 2 || p == 3 || p == 5 || p == 7) {
                doc.due("configure(" + p + ", 1)", new LieAlgebra().configure(p, 1), p);
                doc.due("configure(" + p + ", 5)", new LieAlgebra().configure(p, 5), p * p * p * p * p);
            } else {
                doc.refuses("configure(" + p + ", 2)", 5, 2, BAD, x -> x.configure(wanted, 2));
            }
        }
        for (int p : new int[] {LEAST, LEAST + 2, 65536 + 3, 256 + 5, (1 << 24) + 7, MOST}) {
            doc.refuses("configure(" + p + ", 2)", 5, 2, BAD, x -> x.configure(p, 2));
        }
        doc.says(2, "- `n`: 1 to 5");
        for (int p : Sentences.PRIMES) {
            doc.takesOnly("configure " + p, 3, 3, 1, 5, (x, n) -> x.configure(p, n));
        }
        doc.says(2, "Returns the number of vectors, p^n");
        int[][] counts = {{2, 4, 8, 16, 32}, {3, 9, 27, 81, 243}, {5, 25, 125, 625, 3125}, {7, 49, 343, 2401, 16807}};
        for (int k = 0; k < 4; k++) {
            for (int n = 1; n <= 5; n++) {
                int p = Sentences.PRIMES[k];
                doc.due("configure(" + p + ", " + n + ")", new LieAlgebra().configure(p, n), counts[k][n - 1]);
            }
        }
        doc.says(2, "INVALID_ARGUMENT if an argument is not allowed");
        doc.refuses("configure(4, 3)", 7, 5, BAD, x -> x.configure(4, 3));
        doc.refuses("configure(3, 6)", 7, 5, BAD, x -> x.configure(3, 6));
        doc.refuses("configure(1, 0)", 7, 5, BAD, x -> x.configure(1, 0));
        doc.refuses("configure(0, 0)", 2, 1, BAD, x -> x.configure(0, 0));
        doc.refuses("configure(3, 7)", 2, 1, BAD, x -> x.configure(3, 7));
    }

    private void promise2BeginsAnew() {
        doc.says(2, "Begins a new table in which all brackets are 0.");
        for (int p : Sentences.PRIMES) {
            for (int n = 1; n <= 5; n++) {
                LieAlgebra x = Sentences.full(7, 5);
                x.configure(p, n);
                String zeros = Sentences.state(Tables.abelian(p, n));
                doc.holds("full, then configure(" + p + ", " + n + ")", Sentences.state(x).equals(zeros));
                x.configure(2, 1);
                x.configure(p, n);
                doc.holds("smaller, then configure(" + p + ", " + n + ")", Sentences.state(x).equals(zeros));
            }
        }
    }

    private void promise3() {
        doc.says(3, "- `i`: index of the first basis vector");
        doc.takesIndices("setBracket, i", 2, (x, i) -> x.setBracket(i, i == 0 ? 1 : 0, 0));
        doc.says(3, "- `j`: index of the second basis vector, different from i");
        doc.takesPairs("setBracket", (x, i, j) -> x.setBracket(i, j, 0));
        doc.says(3, "- `value`: a vector");
        doc.takesVectors("setBracket(1, 0, value)", 2, (x, value) -> x.setBracket(1, 0, value));
        doc.says(3, "Returns the previous bracket of ei and ej");
        LieAlgebra x = Tables.abelian(7, 5);
        doc.due("the largest value", x.setBracket(3, 4, 16806), 0);
        doc.due("the largest value again", x.setBracket(3, 4, 0), 16806);
        doc.due("back to 0", x.setBracket(3, 4, 1), 0);
        doc.due("in the other order", x.setBracket(4, 3, 1), 6);
        doc.due("and back", x.setBracket(3, 4, 1), 6);
        doc.says(3, "INVALID_ARGUMENT if there is no such basis vector, if i equals j, or if value is not a vector.");
        doc.refuses("setBracket(3, 0, 0)", 3, 3, BAD, y -> y.setBracket(3, 0, 0));
        doc.refuses("setBracket(0, 3, 0)", 3, 3, BAD, y -> y.setBracket(0, 3, 0));
        doc.refuses("setBracket(-1, 0, 0)", 3, 3, BAD, y -> y.setBracket(-1, 0, 0));
        doc.refuses("setBracket(0, -1, 0)", 3, 3, BAD, y -> y.setBracket(0, -1, 0));
        doc.refuses("setBracket(2, 2, 0)", 3, 3, BAD, y -> y.setBracket(2, 2, 0));
        doc.refuses("setBracket(0, 1, 27)", 3, 3, BAD, y -> y.setBracket(0, 1, 27));
        doc.refuses("setBracket(0, 1, -1)", 3, 3, BAD, y -> y.setBracket(0, 1, -1));
        doc.refuses("setBracket(3, 3, 27)", 3, 3, BAD, y -> y.setBracket(3, 3, 27));
    }

    private void promise3Negatives() {
        doc.says(3, "Sets a bracket of two basis vectors (and its negative).");
        for (int p : Sentences.PRIMES) {
            for (int c = 0; c < p; c++) {
                LieAlgebra x = Tables.abelian(p, 2);
                x.setBracket(0, 1, c + p * ((p - c) % p));
                doc.due("bracket(1, p)", x.bracket(1, p), c + p * ((p - c) % p));
                doc.due("bracket(p, 1)", x.bracket(p, 1), (p - c) % p + p * c);
                x.setBracket(1, 0, c);
                doc.due("bracket(p, 1), set anew", x.bracket(p, 1), c);
                doc.due("bracket(1, p), set anew", x.bracket(1, p), (p - c) % p);
            }
        }
        doc.says(3, "The bracket of a basis vector with itself is 0");
        for (int p : Sentences.PRIMES) {
            for (int i = 0; i < 5; i++) {
                LieAlgebra x = Sentences.full(p, 5);
                int ei = Sentences.unit(p, i);
                doc.due("bracket(ei, ei)", x.bracket(ei, ei), 0);
                doc.refuses("setBracket(i, i, 0)", p, 5, BAD, numbered(i));
            }
        }
    }

    private static Sentences.Call numbered(int i) {
        return x -> x.setBracket(i, i, 0);
    }

    private void promise4() {
        doc.says(4, "- `character`: character code, 0 to 255");
        LieAlgebra all = new LieAlgebra();
        for (int code = 0; code <= 255; code++) {
            if (code == 120 || code == 240) {
                doc.due("clearText()", all.clearText(), 120);
            }
            doc.due("append(" + code + ")", all.append(code), code % 120 + 1);
        }
        for (int code : new int[] {LEAST, -256, -2, -1, 256, 257, 65536 + 48, (1 << 24) + 48, MOST}) {
            LieAlgebra x = Tables.abelian(3, 3);
            doc.changesNothing("append(" + code + ")", x, Tables.abelian(3, 3), BAD, y -> y.append(code));
            doc.due("no character was added", x.clearText(), 0);
        }
        doc.says(4, "Returns the new length of the text");
        LieAlgebra x = new LieAlgebra();
        for (int length = 1; length <= 120; length++) {
            doc.due("append", x.append(255), length);
        }
        doc.says(4, "CAPACITY_EXCEEDED if the text already has 120 characters");
        doc.due("the 121st", x.append(255), FULL);
        doc.due("once more", x.append(0), FULL);
        doc.due("the length", x.clearText(), 120);
        doc.due("there is room again", x.append(255), 1);
        doc.changesNothing("append(59), full", Sentences.full(3, 3), Sentences.full(3, 3), FULL, z -> z.append(59));
        LieAlgebra y = new LieAlgebra();
        Tables.write(y, "[0,1]=e0" + " ".repeat(111) + ";");
        doc.due("append('['), full of a good text", y.append('['), FULL);
        doc.due("the good text is as it was", y.loadText(), 1);
        doc.says(4, "INVALID_ARGUMENT if character is out of range");
        for (int code : new int[] {LEAST, -1, 256, MOST}) {
            doc.due("append(" + code + ")", new LieAlgebra().append(code), BAD);
        }
        doc.says(4, "the method returns the one that its description lists first");
        for (int code : new int[] {LEAST, -1, 256, MOST}) {
            doc.refuses("append(" + code + "), full or not", 3, 3, BAD, z -> z.append(code));
        }
    }

    private void promise5() {
        doc.says(5, "Makes the text empty.");
        LieAlgebra x = Sentences.full(3, 3);
        doc.due("clearText(), full", x.clearText(), 120);
        doc.due("loadText()", x.loadText(), -10);
        doc.due("append('[')", x.append('['), 1);
        doc.due("nothing is left of the text before", x.loadText(), -11);
        doc.says(5, "Returns the previous length of the text.");
        LieAlgebra y = new LieAlgebra();
        doc.due("clearText(), empty", y.clearText(), 0);
        for (int length = 1; length <= 20; length++) {
            Tables.write(y, "x".repeat(length));
            doc.due("clearText()", y.clearText(), length);
            doc.due("clearText(), once more", y.clearText(), 0);
        }
        Tables.write(y, "x".repeat(119));
        doc.due("clearText(), 119", y.clearText(), 119);
        Tables.write(y, "x".repeat(121));
        doc.due("clearText(), 120", y.clearText(), 120);
    }

    private void promise7And8() {
        for (int p : Sentences.PRIMES) {
            for (int n = 1; n <= 5; n++) {
                doc.says(7, "Returns the prime.");
                doc.due("prime()", Tables.abelian(p, n).prime(), p);
                doc.says(7, "Returns p.");
                doc.due("prime()", Sentences.full(p, n).prime(), p);
                doc.says(8, "Returns the dimension.");
                doc.due("dimension()", Tables.abelian(p, n).dimension(), n);
                doc.says(8, "Returns n.");
                doc.due("dimension()", Sentences.full(p, n).dimension(), n);
            }
        }
    }

    private void promise9() {
        doc.says(9, "- `u`: a vector");
        doc.takesVectors("bracket(u, 1)", 1, (x, u) -> x.bracket(u, 1));
        doc.says(9, "- `v`: a vector");
        doc.takesVectors("bracket(1, v)", 1, (x, v) -> x.bracket(1, v));
        doc.says(9, "so the vectors are the numbers from 0 to p^n - 1");
        doc.takesVectors("bracket(v, v)", 1, (x, v) -> x.bracket(v, v));
        doc.says(9, "INVALID_ARGUMENT if u or v is not a vector");
        doc.refuses("bracket(-1, 0)", 2, 1, BAD, x -> x.bracket(-1, 0));
        doc.refuses("bracket(0, 2)", 2, 1, BAD, x -> x.bracket(0, 2));
        doc.refuses("bracket(-1, 2)", 2, 1, BAD, x -> x.bracket(-1, 2));
        doc.refuses("bracket(16807, 0)", 7, 5, BAD, x -> x.bracket(16807, 0));
        doc.says(9, "Returns the bracket of two vectors.");
        for (int p : Sentences.PRIMES) {
            LieAlgebra line = Tables.abelian(p, 1);
            doc.due("n = 1, the last vectors", line.bracket(p - 1, p - 1), 0);
            for (int n = 1; n <= 5; n++) {
                LieAlgebra x = Sentences.full(p, n);
                int last = Sentences.unit(p, n) - 1;
                doc.due("[0, last]", x.bracket(0, last), 0);
                doc.due("[last, 0]", x.bracket(last, 0), 0);
                doc.due("[last, last]", x.bracket(last, last), 0);
            }
        }
    }

    private void promise9Arithmetic() {
        doc.says(9, "Returns the vector [u, v]");
        LieAlgebra x = Tables.table(7, 5, "[3,4]=6e0+6e1+6e2+6e3+6e4;");
        doc.due("the largest vector", x.bracket(343, 2401), 16806);
        doc.due("its negative", x.bracket(2401, 343), 1 + 7 + 49 + 343 + 2401);
        doc.due("6 * 6 = 1", x.bracket(6 * 343, 6 * 2401), 16806);
        doc.due("6 * 1 * 6 = 1", x.bracket(6 * 343, 2401), 1 + 7 + 49 + 343 + 2401);
        doc.says(9, "it is the sum, over all i and j, of ui * vj * [ei, ej]");
        for (int p : Sentences.PRIMES) {
            LieAlgebra y = Tables.table(p, 2, "[0,1]=e1;");
            for (int a = 0; a < p * p; a++) {
                for (int b = 0; b < p * p; b++) {
                    int sum = Math.floorMod(a % p * (b / p) - a / p * (b % p), p);
                    doc.due("(" + p + ", 2) bracket(" + a + ", " + b + ")", y.bracket(a, b), sum * p);
                }
            }
        }
    }

    private void promise10() {
        doc.says(10, "Returns 100 * i + 10 * j + k for the lexicographically smallest i, j, k with i less than j, j less"
                + " than k and a Jacobi value other than 0");
        for (int p : Sentences.PRIMES) {
            for (int i = 0; i < 5; i++) {
                for (int j = i + 1; j < 5; j++) {
                    for (int k = j + 1; k < 5; k++) {
                        doc.due("the only three modulo " + p, failing(p, i, j, k).jacobiFailure(),
                                100 * i + 10 * j + k);
                    }
                }
            }
        }
        doc.due("034 and 123 fail", Tables.table(3, 5, "[0,4]=e2;[1,3]=e3;[2,3]=e0;").jacobiFailure(), 34);
        doc.due("the last three of n = 4", Tables.table(2, 4, "[1,2]=e1;[2,3]=e2;[1,3]=e3;").jacobiFailure(), 123);
        doc.says(10, "NONE if the table is valid");
        for (int p : Sentences.PRIMES) {
            for (int n = 1; n <= 5; n++) {
                doc.changesNothing("no brackets", Tables.abelian(p, n), Tables.abelian(p, n), NONE,
                        LieAlgebra::jacobiFailure);
            }
            doc.due("n = 2, any bracket", Tables.table(p, 2, "[0,1]=e0-e1;").jacobiFailure(), NONE);
        }
        doc.due("simple", Tables.simple().jacobiFailure(), NONE);
        String thrice = "[0,1]=e4;[1,2]=e4;[2,0]=e4;[0,4]=e3;[1,4]=e3;[2,4]=e3;";
        doc.due("3 e3 modulo 3", Tables.table(3, 5, thrice).jacobiFailure(), NONE);
        doc.due("3 e3 modulo 2", Tables.table(2, 5, thrice).jacobiFailure(), 12);
        doc.due("3 e3 modulo 7", Tables.table(7, 5, thrice).jacobiFailure(), 12);
    }

    /** [ei, ej] = ei, [ej, ek] = ej and [ei, ek] = ek: the value of these three is ei - ej - ek, of others 0. */
    private static LieAlgebra failing(int p, int i, int j, int k) {
        return Tables.table(p, 5, "[" + i + "," + j + "]=e" + i + ";[" + j + "," + k + "]=e" + j
                + ";[" + i + "," + k + "]=e" + k + ";");
    }
}
