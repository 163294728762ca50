import java.io.IOException;

/** The bounds of promises 11 to 20: levels, numbers of vectors, the smallest and largest subspaces. */
public final class SeriesBoundsTest {
    private static final int BAD = Sentences.BAD;
    private static final int NONE = Sentences.NONE;
    private static final int LEAST = Sentences.LEAST;
    private static final int MOST = Sentences.MOST;

    /** Each level of the derived series loses one dimension: 5, 4, 3, 2, 1, 0. It is not valid. */
    private static final String SLOW_DERIVED = "[0,1]=e1;[1,2]=e2;[2,3]=e3;[3,4]=e4;";
    /** The lower central series is 5, 3, 2, 1, 0, which is as long as one that ends in 0 can be. */
    private static final String SLOW_CENTRAL = "[0,1]=e2;[0,2]=e3;[0,3]=e4;";

    private final Sentences doc = new Sentences();

    private SeriesBoundsTest() throws IOException {
    }

    public static void main(String[] args) throws IOException {
        SeriesBoundsTest t = new SeriesBoundsTest();
        t.promise11();
        t.promise12();
        t.promise13();
        t.promise13Canonical();
        t.promise14();
        t.promise15();
        t.promise16();
        t.promise17();
        t.promise18();
        t.promise19();
        t.promise20();
        t.tablesThatAreNotValid();
        t.doc.covers(11, 20);
        t.doc.end();
    }

    /** [e0, ek] = e(k - 1): what e0 does to the last basis vector comes down to e0 in n - 1 steps. */
    private static String downward(int n) {
        StringBuilder text = new StringBuilder();
        for (int k = 1; k < n; k++) {
            text.append("[0,").append(k).append("]=e").append(k - 1).append(';');
        }
        return text.toString();
    }

    private void levels(String call, Sentences.CallWithOne asking) {
        for (int p : Sentences.PRIMES) {
            for (int n = 1; n <= 5; n++) {
                doc.takesOnly(call, p, n, 0, 9, asking);
            }
        }
    }

    private void promise11() {
        doc.says(11, "- `level`: 0 to 9");
        levels("derivedDimension", (x, level) -> x.derivedDimension(level));
        doc.says(11, "INVALID_ARGUMENT if level is out of range");
        doc.refuses("derivedDimension(-1)", 2, 1, BAD, x -> x.derivedDimension(-1));
        doc.refuses("derivedDimension(10)", 2, 1, BAD, x -> x.derivedDimension(10));
        doc.says(11, "Returns the dimension of a level of the derived series.");
        LieAlgebra slow = Tables.table(3, 5, SLOW_DERIVED);
        for (int level = 0; level <= 9; level++) {
            doc.due("level " + level, slow.derivedDimension(level), Math.max(0, 5 - level));
            doc.due("simple, level " + level, Tables.simple().derivedDimension(level), 3);
        }
        doc.says(11, "Returns the dimension; INVALID_ARGUMENT");
        for (int p : Sentences.PRIMES) {
            for (int n = 1; n <= 5; n++) {
                LieAlgebra x = Tables.abelian(p, n);
                doc.due("no brackets, level 0", x.derivedDimension(0), n);
                doc.due("no brackets, level 1", x.derivedDimension(1), 0);
                doc.due("no brackets, level 9", x.derivedDimension(9), 0);
            }
        }
        doc.says(11, "The derived series begins with the whole space (level 0)");
        doc.due("full", Sentences.full(7, 5).derivedDimension(0), 5);
        doc.due("n = 1", Sentences.full(2, 1).derivedDimension(0), 1);
    }

    private void promise12() {
        doc.says(12, "- `level`: 0 to 9");
        levels("lowerCentralDimension", (x, level) -> x.lowerCentralDimension(level));
        doc.says(12, "INVALID_ARGUMENT if level is out of range");
        doc.refuses("lowerCentralDimension(-1)", 2, 1, BAD, x -> x.lowerCentralDimension(-1));
        doc.refuses("lowerCentralDimension(10)", 2, 1, BAD, x -> x.lowerCentralDimension(10));
        doc.says(12, "Returns the dimension of a level of the lower central series.");
        LieAlgebra slow = Tables.table(3, 5, SLOW_CENTRAL);
        int[] sizes = {5, 3, 2, 1, 0, 0, 0, 0, 0, 0};
        for (int level = 0; level <= 9; level++) {
            doc.due("level " + level, slow.lowerCentralDimension(level), sizes[level]);
            int stays = level == 0 ? 5 : 4;
            doc.due("stays at 4, level " + level,
                    Tables.table(3, 5, SLOW_DERIVED).lowerCentralDimension(level), stays);
        }
        doc.says(12, "Returns the dimension; INVALID_ARGUMENT");
        for (int p : Sentences.PRIMES) {
            for (int n = 1; n <= 5; n++) {
                LieAlgebra x = Tables.abelian(p, n);
                doc.due("no brackets, level 0", x.lowerCentralDimension(0), n);
                doc.due("no brackets, level 1", x.lowerCentralDimension(1), 0);
                doc.due("no brackets, level 9", x.lowerCentralDimension(9), 0);
            }
        }
        doc.says(12, "lower central series begins with the whole space (level 0)");
        doc.due("full", Sentences.full(7, 5).lowerCentralDimension(0), 5);
        doc.due("n = 1", Sentences.full(2, 1).lowerCentralDimension(0), 1);
    }

    private void promise13() {
        doc.says(13, "- `level`: 0 to 9");
        levels("derivedVector, level", (x, level) -> x.derivedVector(level, 0));
        doc.says(13, "- `index`: number of the vector");
        int[][] bases = {{1, 3, 9, 27, 81}, {3, 9, 27, 81}, {9, 27, 81}, {27, 81}, {81}, {}, {}, {}, {}, {}};
        for (int level = 0; level <= 9; level++) {
            int at = level;
            doc.takesNumbers("level " + level, () -> Tables.table(3, 5, SLOW_DERIVED), bases[level],
                    (x, index) -> x.derivedVector(at, index));
        }
        doc.says(13, "Returns a vector of the canonical basis of a level of the derived series.");
        for (int p : Sentences.PRIMES) {
            for (int n = 1; n <= 5; n++) {
                LieAlgebra x = Tables.abelian(p, n);
                for (int index = 0; index < n; index++) {
                    doc.due("the whole space", x.derivedVector(0, index), Sentences.unit(p, index));
                }
                doc.due("past the whole space", x.derivedVector(0, n), NONE);
                doc.due("level 1, which is 0", x.derivedVector(1, 0), NONE);
            }
        }
        doc.says(13, "Returns the vector; INVALID_ARGUMENT");
        doc.due("level 0, the last", Tables.abelian(7, 5).derivedVector(0, 4), 2401);
        doc.due("level 9, the first", Tables.simple().derivedVector(9, 0), 1);
        doc.says(13, "INVALID_ARGUMENT if level is out of range, or if index is negative");
        doc.refuses("derivedVector(-1, 0)", 5, 3, BAD, x -> x.derivedVector(-1, 0));
        doc.refuses("derivedVector(10, 0)", 5, 3, BAD, x -> x.derivedVector(10, 0));
        doc.refuses("derivedVector(0, -1)", 5, 3, BAD, x -> x.derivedVector(0, -1));
        doc.refuses("derivedVector(-1, -1)", 5, 3, BAD, x -> x.derivedVector(-1, -1));
        doc.says(13, "NONE if there is no such vector.");
        doc.refuses("derivedVector(0, 3)", 5, 3, NONE, x -> x.derivedVector(0, 3));
        doc.refuses("derivedVector(9, MOST)", 5, 3, NONE, x -> x.derivedVector(9, MOST));
        doc.says(13, "NONE is no error, and it is returned only if no error condition applies");
        doc.refuses("derivedVector(10, 5)", 5, 3, BAD, x -> x.derivedVector(10, 5));
        doc.refuses("derivedVector(-1, MOST)", 5, 3, BAD, x -> x.derivedVector(-1, MOST));
        doc.refuses("derivedVector(9, -1)", 5, 3, BAD, x -> x.derivedVector(9, -1));
        doc.changesNothing("derivedVector(9, 0)", Tables.solvable(), Tables.solvable(), NONE, x -> x.derivedVector(9, 0));
    }

    private void promise13Canonical() {
        doc.says(13, "each basis vector has a leading coordinate, which is the first coordinate other than 0 and has the"
                + " value 1");
        for (int p : Sentences.PRIMES) {
            for (int c = 1; c < p; c++) {
                doc.due("scaled", Tables.table(p, 3, "[0,1]=" + c + "e2;").derivedVector(1, 0), p * p);
                LieAlgebra x = Tables.table(p, 3, "[0,1]=" + c + "e1+" + c + "e2;");
                doc.due("scaled, two coordinates", x.derivedVector(1, 0), p + p * p);
            }
        }
        doc.says(13, "the positions of the leading coordinates increase");
        LieAlgebra turned = Tables.table(5, 4, "[0,1]=e3;[0,2]=e2;[0,3]=e1;");
        doc.due("first", turned.derivedVector(1, 0), 5);
        doc.due("second", turned.derivedVector(1, 1), 25);
        doc.due("third", turned.derivedVector(1, 2), 125);
        doc.due("no fourth", turned.derivedVector(1, 3), NONE);
        doc.says(13, "at the position of a leading coordinate all other basis vectors have 0");
        LieAlgebra mixed = Tables.table(5, 4, "[0,1]=e0+2e1+3e2+2e3;[0,2]=e1+2e2;[0,3]=e2+e3;");
        doc.due("first, reduced by second and third", mixed.derivedVector(1, 0), 1 + 3 * 125);
        doc.due("second, reduced by third", mixed.derivedVector(1, 1), 5 + 3 * 125);
        doc.due("third", mixed.derivedVector(1, 2), 25 + 125);
        doc.due("no fourth", mixed.derivedVector(1, 3), NONE);
    }

    private void promise14() {
        doc.says(14, "Returns 0 if it is not solvable, 1 if it is solvable but not nilpotent, 2 if it is nilpotent.");
        doc.due("simple", Tables.simple().kind(), 0);
        doc.due("stays at 3 of 5", Tables.table(5, 5, "[0,1]=2e1;[0,2]=-2e2;[1,2]=e0;").kind(), 0);
        doc.due("n = 2", Tables.table(2, 2, "[0,1]=e1;").kind(), 1);
        doc.due("n = 2, no bracket", Tables.abelian(2, 2).kind(), 2);
        for (int p : Sentences.PRIMES) {
            doc.due("n = 1", Tables.abelian(p, 1).kind(), 2);
            doc.due("no brackets", Tables.abelian(p, 5).kind(), 2);
        }
        doc.says(14, "The table is solvable if some level of the derived series is 0");
        doc.due("only level 5 is 0", Tables.table(3, 5, SLOW_DERIVED).kind(), 1);
        doc.due("level 2 is 0", Tables.solvable().kind(), 1);
        doc.says(14, "nilpotent if some level of the lower central series is 0");
        doc.due("only level 4 is 0", Tables.table(3, 5, SLOW_CENTRAL).kind(), 2);
        doc.due("stays at 1", Tables.table(5, 5, "[0,1]=e1;").kind(), 1);
    }

    private void promise15() {
        doc.says(15, "Returns the dimension of the center.");
        doc.due("0 of 3", Tables.simple().centerDimension(), 0);
        doc.due("0 of 2", Tables.table(3, 2, "[0,1]=e0;").centerDimension(), 0);
        doc.due("1 of 3", Tables.heisenberg(3).centerDimension(), 1);
        doc.says(15, "Returns the dimension.");
        for (int p : Sentences.PRIMES) {
            for (int n = 1; n <= 5; n++) {
                doc.due("no brackets", Tables.abelian(p, n).centerDimension(), n);
            }
            for (int n = 2; n <= 5; n++) {
                doc.due("one bracket", Tables.table(p, n, "[0,1]=e0;").centerDimension(), n - 2);
            }
        }
    }

    private void promise16() {
        doc.says(16, "- `index`: number of the vector");
        Sentences.CallWithOne center = (x, index) -> x.centerVector(index);
        doc.takesNumbers("no vector", Tables::simple, new int[] {}, center);
        doc.takesNumbers("one vector", () -> Tables.heisenberg(3), new int[] {9}, center);
        doc.takesNumbers("n = 1", () -> Tables.abelian(2, 1), new int[] {1}, center);
        doc.takesNumbers("three of n = 5", () -> Tables.table(3, 5, "[0,4]=e1;"), new int[] {3, 9, 27}, center);
        doc.takesNumbers("five vectors", () -> Tables.abelian(7, 5), new int[] {1, 7, 49, 343, 2401}, center);
        doc.says(16, "Returns a vector of the canonical basis of the center.");
        LieAlgebra x = Tables.table(3, 4, "[0,3]=e0;[1,3]=e0;[2,3]=-e0;");
        doc.due("e0 + e2", x.centerVector(0), 1 + 9);
        doc.due("e1 + e2", x.centerVector(1), 3 + 9);
        doc.due("no third", x.centerVector(2), NONE);
        doc.says(16, "Returns the vector; INVALID_ARGUMENT");
        doc.due("the first of five", Tables.abelian(7, 5).centerVector(0), 1);
        doc.due("the last of five", Tables.abelian(7, 5).centerVector(4), 2401);
        doc.says(16, "INVALID_ARGUMENT if index is negative");
        doc.refuses("centerVector(-1)", 7, 1, BAD, y -> y.centerVector(-1));
        doc.refuses("centerVector(LEAST)", 7, 5, BAD, y -> y.centerVector(LEAST));
        doc.says(16, "NONE if there is no such vector");
        doc.refuses("centerVector(5)", 7, 5, NONE, y -> y.centerVector(5));
        doc.refuses("centerVector(MOST)", 7, 1, NONE, y -> y.centerVector(MOST));
        doc.says(16, "NONE is no error, and it is returned only if no error condition applies");
        doc.changesNothing("no vector and a negative index", Tables.simple(), Tables.simple(), BAD,
                y -> y.centerVector(-1));
    }

    private void promise17() {
        doc.says(17, "- `v`: a vector");
        doc.takesVectors("centralizerDimension", 1, (x, v) -> x.centralizerDimension(v));
        doc.says(17, "Returns the dimension of the centralizer of a vector.");
        for (int p : Sentences.PRIMES) {
            LieAlgebra x = Tables.table(p, 2, "[0,1]=e1;");
            doc.due("of 0", x.centralizerDimension(0), 2);
            for (int v = 1; v < p * p; v++) {
                doc.due("of " + v, x.centralizerDimension(v), 1);
            }
        }
        doc.says(17, "Returns the dimension; INVALID_ARGUMENT");
        doc.due("n = 1, the last", Tables.abelian(7, 1).centralizerDimension(6), 1);
        doc.due("n = 5, the last", Tables.abelian(7, 5).centralizerDimension(16806), 5);
        doc.due("the least there is", Tables.table(3, 5, downward(5)).centralizerDimension(1), 1);
        doc.says(17, "INVALID_ARGUMENT if v is not a vector");
        doc.refuses("centralizerDimension(-1)", 7, 1, BAD, x -> x.centralizerDimension(-1));
        doc.refuses("centralizerDimension(7)", 7, 1, BAD, x -> x.centralizerDimension(7));
    }

    private void promise18() {
        doc.says(18, "- `v`: a vector");
        doc.takesVectors("idealDimension", 1, (x, v) -> x.idealDimension(v));
        doc.says(18, "Returns the dimension of the ideal of a vector.");
        for (int p : Sentences.PRIMES) {
            for (int n = 1; n <= 5; n++) {
                LieAlgebra x = Tables.abelian(p, n);
                doc.due("of 0", x.idealDimension(0), 0);
                doc.due("of the last", x.idealDimension(Sentences.unit(p, n) - 1), 1);
            }
        }
        doc.says(18, "Returns the dimension; INVALID_ARGUMENT");
        for (int n = 2; n <= 5; n++) {
            LieAlgebra down = Tables.table(3, n, downward(n));
            for (int k = 0; k < n; k++) {
                doc.due("downward from e" + k, down.idealDimension(Sentences.unit(3, k)), k == n - 1 ? n : n - 1);
            }
        }
        LieAlgebra up = Tables.table(3, 5, "[0,1]=e2;[0,2]=e3;[0,3]=e4;[0,4]=e0;");
        doc.due("upward from e1, and round to e0", up.idealDimension(3), 5);
        doc.says(18, "INVALID_ARGUMENT if v is not a vector");
        doc.refuses("idealDimension(-1)", 7, 5, BAD, x -> x.idealDimension(-1));
        doc.refuses("idealDimension(16807)", 7, 5, BAD, x -> x.idealDimension(16807));
    }

    private void promise19() {
        doc.says(19, "- `u`: a vector");
        doc.takesVectors("subalgebraDimension, u", 1, (x, u) -> x.subalgebraDimension(u, 1));
        doc.says(19, "- `v`: a vector");
        doc.takesVectors("subalgebraDimension, v", 1, (x, v) -> x.subalgebraDimension(1, v));
        doc.says(19, "Returns the dimension of the subalgebra of two vectors.");
        for (int p : Sentences.PRIMES) {
            for (int n = 1; n <= 5; n++) {
                LieAlgebra x = Tables.abelian(p, n);
                int last = Sentences.unit(p, n) - 1;
                doc.due("of 0 and 0", x.subalgebraDimension(0, 0), 0);
                doc.due("of 0 and the last", x.subalgebraDimension(0, last), 1);
                doc.due("of the last and 0", x.subalgebraDimension(last, 0), 1);
                doc.due("of the last twice", x.subalgebraDimension(last, last), 1);
                doc.due("of e0 and the last", x.subalgebraDimension(1, last), n == 1 ? 1 : 2);
            }
        }
        doc.says(19, "Returns the dimension; INVALID_ARGUMENT");
        for (int n = 2; n <= 5; n++) {
            LieAlgebra down = Tables.table(7, n, downward(n));
            doc.due("all, downward", down.subalgebraDimension(1, Sentences.unit(7, n - 1)), n);
        }
        doc.due("all, upward", Tables.table(7, 5, SLOW_CENTRAL).subalgebraDimension(1, 7), 5);
        doc.says(19, "INVALID_ARGUMENT if u or v is not a vector");
        doc.refuses("subalgebraDimension(-1, 0)", 2, 3, BAD, x -> x.subalgebraDimension(-1, 0));
        doc.refuses("subalgebraDimension(0, 8)", 2, 3, BAD, x -> x.subalgebraDimension(0, 8));
        doc.refuses("subalgebraDimension(8, -1)", 2, 3, BAD, x -> x.subalgebraDimension(8, -1));
    }

    private void promise20() {
        doc.says(20, "- `u`: a vector");
        doc.takesVectors("subalgebraVector, u", 1, (x, u) -> x.subalgebraVector(u, 1, 0));
        doc.says(20, "- `v`: a vector");
        doc.takesVectors("subalgebraVector, v", 1, (x, v) -> x.subalgebraVector(1, v, 0));
        doc.says(20, "- `index`: number of the vector of the canonical basis");
        doc.takesNumbers("of 0 and 0", () -> Tables.abelian(7, 5), new int[] {}, (x, k) -> x.subalgebraVector(0, 0, k));
        doc.takesNumbers("n = 1", () -> Tables.abelian(7, 1), new int[] {1}, (x, k) -> x.subalgebraVector(6, 5, k));
        doc.takesNumbers("of two", () -> Tables.abelian(5, 3), new int[] {1 + 4 * 25, 5 + 2 * 25},
                (x, k) -> x.subalgebraVector(1 + 5 + 25, 1 + 2 * 5 + 3 * 25, k));
        doc.takesNumbers("all five", () -> Tables.table(3, 5, downward(5)), new int[] {1, 3, 9, 27, 81},
                (x, k) -> x.subalgebraVector(81, 1, k));
        doc.says(20, "Returns a vector of the canonical basis of the subalgebra of two vectors.");
        doc.due("scaled to 1", Tables.abelian(7, 2).subalgebraVector(3 + 6 * 7, 0, 0), 1 + 2 * 7);
        doc.due("the leading coordinate is the last", Tables.abelian(7, 5).subalgebraVector(0, 6 * 2401, 0), 2401);
        doc.says(20, "Returns the vector; INVALID_ARGUMENT");
        doc.due("index 0", Tables.heisenberg(2).subalgebraVector(1, 2, 0), 1);
        doc.due("index 2", Tables.heisenberg(2).subalgebraVector(1, 2, 2), 4);
        doc.says(20, "INVALID_ARGUMENT if u or v is not a vector, or if index is negative");
        doc.refuses("subalgebraVector(-1, 0, 0)", 3, 2, BAD, x -> x.subalgebraVector(-1, 0, 0));
        doc.refuses("subalgebraVector(0, 9, 0)", 3, 2, BAD, x -> x.subalgebraVector(0, 9, 0));
        doc.refuses("subalgebraVector(1, 1, -1)", 3, 2, BAD, x -> x.subalgebraVector(1, 1, -1));
        doc.says(20, "NONE if there is no such vector");
        doc.refuses("subalgebraVector(1, 1, 1)", 3, 2, NONE, x -> x.subalgebraVector(1, 1, 1));
        doc.says(20, "NONE is no error, and it is returned only if no error condition applies");
        doc.refuses("subalgebraVector(9, 0, 9)", 3, 2, BAD, x -> x.subalgebraVector(9, 0, 9));
        doc.refuses("subalgebraVector(0, -1, 9)", 3, 2, BAD, x -> x.subalgebraVector(0, -1, 9));
        doc.refuses("subalgebraVector(0, 0, -1)", 3, 2, BAD, x -> x.subalgebraVector(0, 0, -1));
        doc.refuses("subalgebraVector(0, 0, 0)", 3, 2, NONE, x -> x.subalgebraVector(0, 0, 0));
    }

    private void tablesThatAreNotValid() {
        doc.says(18, "A table need not be valid; what is described in the following sections is computed in the same way"
                + " from any table.");
        LieAlgebra x = Tables.table(3, 5, SLOW_DERIVED);
        doc.due("not valid", x.jacobiFailure(), 12);
        doc.due("center", x.centerDimension(), 0);
        doc.due("centralizer of e0", x.centralizerDimension(1), 4);
        doc.due("ideal of e4", x.idealDimension(81), 1);
        doc.due("ideal of e0", x.idealDimension(1), 5);
        doc.due("subalgebra of e1 and e2", x.subalgebraDimension(3, 9), 2);
    }
}
