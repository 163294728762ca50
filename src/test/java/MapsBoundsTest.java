import java.io.IOException;

/** The bounds of promises 21 to 28: adjoint maps, derivations, and changes of the basis. */
public final class MapsBoundsTest {
    private static final int BAD = Sentences.BAD;
    private static final int NONE = Sentences.NONE;
    private static final int LEAST = Sentences.LEAST;
    private static final int MOST = Sentences.MOST;

    private final Sentences doc = new Sentences();

    private MapsBoundsTest() throws IOException {
    }

    public static void main(String[] args) throws IOException {
        MapsBoundsTest t = new MapsBoundsTest();
        t.promise21();
        t.promise22();
        t.promise22Indices();
        t.promise23();
        t.promise23Values();
        t.promise24();
        t.promise25();
        t.promise26();
        t.promise26GoesRound();
        t.promise27();
        t.promise27GoesRound();
        t.promise28();
        t.doc.covers(21, 28);
        t.doc.end();
    }

    /** [e0, ek] = e(k + step) for k from 1; what leads past the end begins again at e1. */
    private static String moves(int n, int step) {
        StringBuilder text = new StringBuilder();
        for (int k = 1; k < n; k++) {
            int to = k + step >= n ? 1 : k + step;
            text.append("[0,").append(k).append("]=e").append(to).append(';');
        }
        return text.toString();
    }

    // ---- adjoint maps

    private void promise21() {
        doc.says(21, "- `v`: a vector");
        doc.takesVectors("adjointEntry, v", 1, (x, v) -> x.adjointEntry(v, 0, 0));
        doc.says(21, "- `row`: 0 to n - 1");
        doc.takesIndices("adjointEntry, row", 1, (x, row) -> x.adjointEntry(1, row, 0));
        doc.says(21, "- `column`: 0 to n - 1");
        doc.takesIndices("adjointEntry, column", 1, (x, column) -> x.adjointEntry(1, 0, column));
        doc.says(21, "Returns an entry of the adjoint matrix of a vector.");
        LieAlgebra x = Tables.table(7, 5, "[0,4]=e0+2e1+3e2+4e3+6e4;");
        int[] last = {1, 2, 3, 4, 6};
        for (int row = 0; row < 5; row++) {
            doc.due("e0, the last column", x.adjointEntry(1, row, 4), last[row]);
            doc.due("6e0, the last column", x.adjointEntry(6, row, 4), 7 - last[row]);
            doc.due("e4, the first column", x.adjointEntry(2401, row, 0), 7 - last[row]);
            doc.due("the last vector, the first column", x.adjointEntry(16806, row, 0), last[row]);
            doc.due("e0, its own column", x.adjointEntry(1, row, 0), 0);
            doc.due("0", x.adjointEntry(0, row, 4), 0);
        }
        doc.says(21, "Returns the entry; INVALID_ARGUMENT");
        doc.due("n = 1", Tables.abelian(7, 1).adjointEntry(6, 0, 0), 0);
        doc.due("the largest entry", Tables.table(7, 5, "[3,4]=-e4;").adjointEntry(343, 4, 4), 6);
        doc.says(21, "INVALID_ARGUMENT if v is not a vector, or if row or column is out of range.");
        doc.refuses("adjointEntry(25, 0, 0)", 5, 2, BAD, y -> y.adjointEntry(25, 0, 0));
        doc.refuses("adjointEntry(0, 2, 0)", 5, 2, BAD, y -> y.adjointEntry(0, 2, 0));
        doc.refuses("adjointEntry(0, 0, 2)", 5, 2, BAD, y -> y.adjointEntry(0, 0, 2));
        doc.refuses("adjointEntry(-1, -1, -1)", 5, 2, BAD, y -> y.adjointEntry(-1, -1, -1));
        doc.refuses("adjointEntry(0, LEAST, MOST)", 5, 2, BAD, y -> y.adjointEntry(0, LEAST, MOST));
        doc.refuses("adjointEntry(0, 0, 1), n = 1", 5, 1, BAD, y -> y.adjointEntry(0, 0, 1));
    }

    private void promise22() {
        doc.says(22, "- `v`: a vector");
        doc.takesVectors("nilpotencyIndex", 1, (x, v) -> x.nilpotencyIndex(v));
        doc.says(22, "Returns the index with which a vector is nilpotent.");
        doc.due("e0 of the simple one", Tables.simple().nilpotencyIndex(1), NONE);
        doc.due("e1 of the simple one", Tables.simple().nilpotencyIndex(5), 3);
        doc.due("e2 of the simple one", Tables.simple().nilpotencyIndex(25), 3);
        doc.due("the last of the simple one", Tables.simple().nilpotencyIndex(4 * 25), 3);
        doc.says(22, "INVALID_ARGUMENT if v is not a vector");
        doc.refuses("nilpotencyIndex(-1)", 2, 5, BAD, x -> x.nilpotencyIndex(-1));
        doc.refuses("nilpotencyIndex(32)", 2, 5, BAD, x -> x.nilpotencyIndex(32));
        doc.says(22, "NONE if it is not nilpotent");
        for (int p : Sentences.PRIMES) {
            for (int n = 2; n <= 5; n++) {
                for (int step = 0; step < n - 1; step++) {
                    doc.changesNothing("round by " + step, Tables.table(p, n, moves(n, step)),
                            Tables.table(p, n, moves(n, step)), NONE, x -> x.nilpotencyIndex(1));
                }
            }
        }
    }

    private void promise22Indices() {
        doc.says(22, "and k, which is 1 or more, is the smallest number with this property");
        for (int p : Sentences.PRIMES) {
            for (int n = 1; n <= 5; n++) {
                LieAlgebra x = Tables.abelian(p, n);
                doc.due("no brackets, 0", x.nilpotencyIndex(0), 1);
                doc.due("no brackets, the last", x.nilpotencyIndex(Sentences.unit(p, n) - 1), 1);
                doc.due("0 in a full object", Sentences.full(p, n).nilpotencyIndex(0), 1);
            }
        }
        doc.says(22, "Returns the index; INVALID_ARGUMENT");
        for (int p : Sentences.PRIMES) {
            for (int n = 2; n <= 5; n++) {
                StringBuilder down = new StringBuilder();
                StringBuilder up = new StringBuilder();
                for (int k = 1; k < n; k++) {
                    down.append("[0,").append(k).append("]=e").append(k - 1).append(';');
                    up.append("[0,").append(k).append("]=").append(k + 1 < n ? "e" + (k + 1) : "0").append(';');
                }
                doc.due("n steps down to 0", Tables.table(p, n, down.toString()).nilpotencyIndex(1), n);
                doc.due("n - 1 steps up to 0", Tables.table(p, n, up.toString()).nilpotencyIndex(1), n - 1);
            }
        }
        for (int j = 0; j < 5; j++) {
            int v = Sentences.unit(3, j == 4 ? 3 : 4);
            String moved = "[" + (j == 4 ? 3 : 4) + "," + j + "]=e" + (j == 0 ? 1 : 0) + ";";
            doc.due("only e" + j + " is moved", Tables.table(3, 5, moved).nilpotencyIndex(v), 2);
            doc.due("only e" + j + " is moved, by -v", Tables.table(3, 5, moved).nilpotencyIndex(2 * v), 2);
        }
        doc.due("a square 0", Tables.table(3, 5, "[0,1]=e3;[0,2]=e4;").nilpotencyIndex(1), 2);
        doc.due("chains of 2 and 3", Tables.table(3, 5, "[0,1]=e2;[0,3]=e4;[0,4]=e1;").nilpotencyIndex(1), 4);
    }

    private void promise23() {
        doc.says(23, "- `u`: a vector");
        doc.takesVectors("killing, u", 1, (x, u) -> x.killing(u, 1));
        doc.says(23, "- `v`: a vector");
        doc.takesVectors("killing, v", 1, (x, v) -> x.killing(1, v));
        doc.says(23, "INVALID_ARGUMENT if u or v is not a vector");
        doc.refuses("killing(-1, 0)", 3, 1, BAD, x -> x.killing(-1, 0));
        doc.refuses("killing(3, 0)", 3, 1, BAD, x -> x.killing(3, 0));
        doc.refuses("killing(0, -1)", 3, 1, BAD, x -> x.killing(0, -1));
        doc.refuses("killing(0, 3)", 3, 1, BAD, x -> x.killing(0, 3));
        doc.says(23, "Returns the Killing form of two vectors.");
        for (int p : Sentences.PRIMES) {
            for (int n = 1; n <= 5; n++) {
                LieAlgebra x = Sentences.full(p, n);
                int last = Sentences.unit(p, n) - 1;
                doc.due("0 and the last", x.killing(0, last), 0);
                doc.due("the last and 0", x.killing(last, 0), 0);
                doc.due("no brackets", Tables.abelian(p, n).killing(last, last), 0);
            }
        }
    }

    private void promise23Values() {
        doc.says(23, "Returns the value, 0 to p - 1");
        for (int p : Sentences.PRIMES) {
            for (int n = 2; n <= 5; n++) {
                LieAlgebra ones = Tables.table(p, n, moves(n, 0));
                for (int a = 0; a < p; a++) {
                    for (int b = 0; b < p; b++) {
                        doc.due(a + "e0 and " + b + "e0", ones.killing(a, b), a * b * (n - 1) % p);
                    }
                }
                LieAlgebra dense = Sentences.full(p, n);
                for (int v = 0; v < Sentences.unit(p, n); v += 1 + v / 9) {
                    int value = dense.killing(v, Sentences.unit(p, n) - 1);
                    doc.holds("the value of " + v + " and the last, " + value, value >= 0 && value < p);
                }
            }
        }
        doc.due("a negative sum", Tables.table(5, 3, "[0,1]=e2;[0,2]=-e1;").killing(1, 1), 3);
    }

    private void promise24() {
        doc.says(24, "Returns the dimension of the radical of the Killing form.");
        doc.due("0 of 3", Tables.simple().killingRadicalDimension(), 0);
        doc.due("1 of 4", Tables.table(5, 4, "[0,1]=2e1;[0,2]=-2e2;[1,2]=e0;").killingRadicalDimension(), 1);
        doc.due("2 of 5", Tables.table(5, 5, "[0,1]=2e1;[0,2]=-2e2;[1,2]=e0;").killingRadicalDimension(), 2);
        doc.due("0 of 5", Tables.table(7, 5, "[0,3]=e4;[1,4]=e0;[2,4]=e2+e3;").killingRadicalDimension(), 0);
        doc.due("2 * 4 is 0 modulo 2", Tables.table(2, 3, "[0,1]=e2;[0,2]=e1;[1,2]=e0;").killingRadicalDimension(), 3);
        doc.says(24, "Returns the dimension.");
        for (int p : Sentences.PRIMES) {
            for (int n = 1; n <= 5; n++) {
                doc.due("no brackets", Tables.abelian(p, n).killingRadicalDimension(), n);
            }
            for (int n = 2; n <= 5; n++) {
                int radical = (n - 1) % p == 0 ? n : n - 1;
                doc.due("the trace of 1, n = " + n + ", modulo " + p,
                        Tables.table(p, n, moves(n, 0)).killingRadicalDimension(), radical);
            }
        }
    }

    private void promise25() {
        doc.says(25, "Returns the dimension of the space of derivations.");
        for (int p : Sentences.PRIMES) {
            doc.due("n = 2", Tables.table(p, 2, "[0,1]=e1;").derivationDimension(), 2);
            doc.due("n = 3", Tables.heisenberg(p).derivationDimension(), 6);
            doc.due("n = 5, e2 to e4 in the center", Tables.table(p, 5, "[0,1]=e2;").derivationDimension(), 16);
        }
        doc.says(25, "Returns the dimension.");
        for (int p : Sentences.PRIMES) {
            for (int n = 1; n <= 5; n++) {
                doc.due("all matrices", Tables.abelian(p, n).derivationDimension(), n * n);
            }
        }
        doc.due("e0 alone comes from brackets", Tables.table(3, 3, "[1,2]=e0;").derivationDimension(), 6);
        doc.due("the last alone is moved", Tables.table(3, 5, "[0,4]=e1;").derivationDimension(), 16);
        doc.due("none but 0, modulo 2", Tables.table(2, 4, "[0,1]=e0+e2;[2,3]=e1+e3;").derivationDimension(), 0);
        doc.due("none but 0, modulo 3", Tables.table(3, 4, "[0,1]=e0+e2;[2,3]=e1+e3;").derivationDimension(), 0);
        doc.due("none but 0, n = 5", Tables.table(7, 5, "[0,1]=e1;[2,3]=e0+e2;[3,4]=e1+e3;").derivationDimension(), 0);
    }

    // ---- changes of the basis

    private void promise26() {
        doc.says(26, "- `i`: index of the basis vector that is replaced");
        doc.takesIndices("addBasis, i", 2, (x, i) -> x.addBasis(i, i == 0 ? 1 : 0, 1));
        doc.says(26, "- `j`: index of another basis vector");
        doc.takesPairs("addBasis", (x, i, j) -> x.addBasis(i, j, 1));
        doc.says(26, "- `c`: 1 to p - 1");
        doc.takesFactors("addBasis, c", 2, (x, c) -> x.addBasis(1, 0, c));
        doc.says(26, "INVALID_ARGUMENT if there is no such basis vector, if i equals j, or if c is out of range.");
        doc.refuses("addBasis(2, 0, 1)", 3, 2, BAD, x -> x.addBasis(2, 0, 1));
        doc.refuses("addBasis(0, 2, 1)", 3, 2, BAD, x -> x.addBasis(0, 2, 1));
        doc.refuses("addBasis(1, 1, 1)", 3, 2, BAD, x -> x.addBasis(1, 1, 1));
        doc.refuses("addBasis(0, 1, 0)", 3, 2, BAD, x -> x.addBasis(0, 1, 0));
        doc.refuses("addBasis(0, 1, 3)", 3, 2, BAD, x -> x.addBasis(0, 1, 3));
        doc.refuses("addBasis(0, 0, 1), n = 1", 3, 1, BAD, x -> x.addBasis(0, 0, 1));
        doc.refuses("addBasis(0, 1, 1), n = 1", 3, 1, BAD, x -> x.addBasis(0, 1, 1));
        doc.refuses("addBasis(0, 1, 2), p = 2", 2, 5, BAD, x -> x.addBasis(0, 1, 2));
    }

    private void promise26GoesRound() {
        doc.says(26, "Returns the new bracket of ei and ej");
        for (int p : Sentences.PRIMES) {
            LieAlgebra x = Tables.table(p, 2, "[0,1]=e1;");
            for (int k = 1; k <= 2 * p; k++) {
                // [e1, e0] = -e1 = k e0 - (e1 + k e0)
                doc.due("e0 added " + k + " times, modulo " + p, x.addBasis(1, 0, 1), k % p + p * (p - 1));
            }
            LieAlgebra y = Tables.table(p, 5, "[0,4]=e4;");
            for (int c = 1; c < p; c++) {
                doc.due("[e4 + c e0, e0], the last c is " + c, y.addBasis(4, 0, c), c + (p - 1) * p * p * p * p);
                doc.due("and back", y.addBasis(4, 0, p - c), (p - 1) * p * p * p * p);
            }
        }
        doc.says(26, "To add c times ej to ei (for different i and j) means that ei + c * ej takes the place of the basis"
                + " vector ei; the other basis vectors stay.");
        for (int p : Sentences.PRIMES) {
            LieAlgebra third = Tables.table(p, 3, "[1,2]=e2;");
            for (int k = 1; k <= 2 * p; k++) {
                doc.due("[e0 + k e1, e1], k = " + k, third.addBasis(0, 1, 1), 0);
                doc.due("[e0 + k e1, e2], k = " + k, third.bracket(1, p * p), k % p * p * p);
                doc.due("[e1, e2] stays", third.bracket(p, p * p), p * p);
            }
            for (int c = 1; c < p; c++) {
                LieAlgebra x = Sentences.full(p, 5);
                String before = Sentences.state(x);
                x.addBasis(4, 3, c);
                x.addBasis(4, 3, p - c);
                doc.holds("c and p - c lead back, c = " + c, Sentences.state(x).equals(before));
                x.addBasis(0, 4, c);
                doc.due("undo()", x.undo(), 5);
                doc.holds("so does undo()", Sentences.state(x).equals(before));
            }
        }
    }

    private void promise27() {
        doc.says(27, "- `i`: index of the basis vector");
        doc.takesIndices("scaleBasis, i", 1, (x, i) -> x.scaleBasis(i, 1));
        doc.says(27, "- `c`: 1 to p - 1");
        doc.takesFactors("scaleBasis, c", 1, (x, c) -> x.scaleBasis(0, c));
        doc.says(27, "INVALID_ARGUMENT if there is no such basis vector, or if c is out of range.");
        doc.refuses("scaleBasis(-1, 1)", 5, 4, BAD, x -> x.scaleBasis(-1, 1));
        doc.refuses("scaleBasis(4, 1)", 5, 4, BAD, x -> x.scaleBasis(4, 1));
        doc.refuses("scaleBasis(0, 0)", 5, 4, BAD, x -> x.scaleBasis(0, 0));
        doc.refuses("scaleBasis(0, 5)", 5, 4, BAD, x -> x.scaleBasis(0, 5));
        doc.refuses("scaleBasis(4, 5)", 5, 4, BAD, x -> x.scaleBasis(4, 5));
        doc.refuses("scaleBasis(1, 1), n = 1", 5, 1, BAD, x -> x.scaleBasis(1, 1));
        doc.says(27, "To scale ei by c (other than 0)");
        for (int p : Sentences.PRIMES) {
            doc.refuses("scaleBasis(0, 0)", p, 1, BAD, x -> x.scaleBasis(0, 0));
            doc.refuses("scaleBasis(0, p)", p, 1, BAD, x -> x.scaleBasis(0, p));
        }
        doc.says(27, "Returns the number of ordered pairs of basis vectors whose bracket is not 0 afterwards");
        for (int n = 1; n <= 5; n++) {
            LieAlgebra x = Tables.abelian(7, n);
            int pairs = 0;
            doc.due("no pair", x.scaleBasis(n - 1, 6), pairs);
            for (int i = 0; i < n; i++) {
                for (int j = i + 1; j < n; j++) {
                    x.setBracket(j, i, 6 * Sentences.unit(7, n - 1));
                    pairs += 2;
                    doc.due("each pair counts twice", x.scaleBasis(n - 1, 3), pairs);
                }
            }
        }
    }

    private void promise27GoesRound() {
        doc.says(27, "means that c * ei takes its place");
        for (int p : Sentences.PRIMES) {
            for (int c = 1; c < p; c++) {
                LieAlgebra x = Tables.heisenberg(p);
                int value = 1;
                for (int k = 1; k < p; k++) {
                    value = value * c % p;
                    doc.due("scaleBasis(0, " + c + ")", x.scaleBasis(0, c), 2);
                    doc.due("modulo " + p + ", " + k + " times", x.bracket(1, p), value * p * p);
                }
                LieAlgebra y = Tables.heisenberg(p);
                doc.due("scaleBasis(2, " + c + ")", y.scaleBasis(2, c), 2);
                doc.due("c / c, modulo " + p, c * (y.bracket(1, p) / (p * p)) % p, 1);
            }
        }
    }

    private void promise28() {
        doc.says(28, "- `i`: index of a basis vector");
        doc.takesIndices("swapBasis, i", 2, (x, i) -> x.swapBasis(i, i == 0 ? 1 : 0));
        doc.says(28, "- `j`: index of another basis vector");
        doc.takesPairs("swapBasis", (x, i, j) -> x.swapBasis(i, j));
        doc.says(28, "INVALID_ARGUMENT if there is no such basis vector, or if i equals j");
        doc.refuses("swapBasis(-1, 0)", 2, 5, BAD, x -> x.swapBasis(-1, 0));
        doc.refuses("swapBasis(5, 0)", 2, 5, BAD, x -> x.swapBasis(5, 0));
        doc.refuses("swapBasis(0, -1)", 2, 5, BAD, x -> x.swapBasis(0, -1));
        doc.refuses("swapBasis(0, 5)", 2, 5, BAD, x -> x.swapBasis(0, 5));
        doc.refuses("swapBasis(4, 4)", 2, 5, BAD, x -> x.swapBasis(4, 4));
        doc.refuses("swapBasis(0, 0), n = 1", 2, 1, BAD, x -> x.swapBasis(0, 0));
        doc.refuses("swapBasis(0, 1), n = 1", 2, 1, BAD, x -> x.swapBasis(0, 1));
        doc.says(28, "Returns the new bracket of ei and ej");
        LieAlgebra ends = Tables.table(7, 5, "[0,4]=e0+2e1+3e4;");
        int turned = 4 + 5 * 7 + 6 * 2401;
        doc.due("the ends", ends.swapBasis(0, 4), turned);
        doc.due("[e0, e4]", ends.bracket(1, 2401), turned);
        doc.due("and back", ends.swapBasis(4, 0), 6 + 5 * 7 + 4 * 2401);
        doc.due("as it was", ends.bracket(1, 2401), 1 + 2 * 7 + 3 * 2401);
        doc.says(28, "To swap ei and ej means that they exchange their places.");
        for (int i = 0; i < 5; i++) {
            for (int j = 0; j < 5; j++) {
                if (i != j) {
                    LieAlgebra x = Sentences.full(3, 5);
                    String before = Sentences.state(x);
                    x.swapBasis(i, j);
                    x.swapBasis(j, i);
                    doc.holds("twice leads back", Sentences.state(x).equals(before));
                }
            }
        }
    }
}
