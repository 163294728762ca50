/**
 * The promises 1 to 31, one method each: ordinary calls, the edges that the
 * document names, and wrong arguments. The answers are worked out by hand.
 */
public final class PromiseTest {
    private static final int BAD = LieAlgebra.INVALID_ARGUMENT;
    private static final int STATE = LieAlgebra.ILLEGAL_STATE;
    private static final int FULL = LieAlgebra.CAPACITY_EXCEEDED;
    private static final int NONE = LieAlgebra.NONE;
    private static final int LEAST = Integer.MIN_VALUE;
    private static final int MOST = Integer.MAX_VALUE;

    private final Check check = new Check();

    public static void main(String[] args) {
        PromiseTest t = new PromiseTest();
        t.constants();
        t.promise1();
        t.promise2();
        t.promise3();
        t.promise4();
        t.promise5();
        t.promise6();
        t.promise6ErrorPositions();
        t.promise6KeepsAllOnError();
        t.promise7And8();
        t.promise9();
        t.promise10();
        t.promise11();
        t.promise12();
        t.promise13();
        t.promise14();
        t.promise15();
        t.promise16();
        t.promise17();
        t.promise18();
        t.promise19();
        t.promise20();
        t.promise21();
        t.promise22();
        t.promise23();
        t.promise24();
        t.promise25();
        t.promise26();
        t.promise27();
        t.promise28();
        t.promise29();
        t.promise29SavesOnSuccessOnly();
        t.promise30();
        t.promise31();
        t.check.end();
    }

    private void due(String call, int got, int want) {
        check.due(call, got, want);
    }

    // ---- promises

    private void constants() {
        due("INVALID_ARGUMENT", BAD, -1);
        due("ILLEGAL_STATE", STATE, -2);
        due("CAPACITY_EXCEEDED", FULL, -3);
        due("NONE", NONE, -9);
    }

    private void promise1() {
        LieAlgebra x = new LieAlgebra();
        due("1 prime", x.prime(), 3);
        due("1 dimension", x.dimension(), 3);
        for (int u = 0; u < 27; u++) {
            for (int v = 0; v < 27; v++) {
                due("1 bracket", x.bracket(u, v), 0);
            }
        }
        due("1 no vector 27", x.bracket(27, 0), BAD);
        due("1 text", x.clearText(), 0);
        due("1 nothing saved", x.undo(), STATE);
        due("1 slot 0", x.restore(0), STATE);
        due("1 slot 1", x.restore(1), STATE);
        due("1 kind", x.kind(), 2);
        LieAlgebra other = new LieAlgebra();
        x.setBracket(0, 1, 9);
        x.append(48);
        due("1 objects are apart", other.bracket(1, 3), 0);
        due("1 texts are apart", other.clearText(), 0);
    }

    private void promise2() {
        LieAlgebra x = new LieAlgebra();
        int[] primes = {2, 3, 5, 7};
        for (int p : primes) {
            int count = 1;
            for (int n = 1; n <= 5; n++) {
                count *= p;
                due("2 configure", x.configure(p, n), count);
                due("2 prime", x.prime(), p);
                due("2 dimension", x.dimension(), n);
                due("2 last vector", x.bracket(count - 1, 0), 0);
                due("2 no such vector", x.bracket(count, 0), BAD);
            }
        }
        due("2 kept before errors", x.configure(7, 3), 343);
        x.setBracket(0, 1, 5);
        int[] wrong = {LEAST, -7, -3, -1, 0, 1, 4, 6, 8, 9, 11, 13, 49, MOST};
        for (int p : wrong) {
            due("2 wrong p " + p, x.configure(p, 3), BAD);
        }
        int[] wrongSizes = {LEAST, -1, 0, 6, 7, MOST};
        for (int n : wrongSizes) {
            due("2 wrong n " + n, x.configure(3, n), BAD);
        }
        due("2 errors keep p", x.prime(), 7);
        due("2 errors keep n", x.dimension(), 3);
        due("2 errors keep brackets", x.bracket(1, 7), 5);
        due("2 the same again", x.configure(7, 3), 343);
        due("2 brackets are 0", x.bracket(1, 7), 0);
        Tables.write(x, "[0,1]");
        x.configure(2, 2);
        due("2 the text stays", x.clearText(), 5);
        x.save(0);
        x.configure(5, 4);
        due("2 the slots stay", x.restore(0), 2);
    }

    private void promise3() {
        LieAlgebra x = new LieAlgebra();
        due("3 first", x.setBracket(0, 1, 9), 0);
        due("3 again", x.setBracket(0, 1, 5), 9);
        due("3 turned round", x.setBracket(1, 0, 5), 7);
        due("3 negative", x.setBracket(0, 1, 0), 7);
        due("3 both are 0", x.bracket(3, 1), 0);
        due("3 largest vector", x.setBracket(2, 0, 26), 0);
        due("3 its negative", x.bracket(1, 9), 13);
        due("3 others stay", x.bracket(3, 9), 0);
        due("3 i = j", x.setBracket(1, 1, 0), BAD);
        due("3 i below", x.setBracket(-1, 1, 0), BAD);
        due("3 i above", x.setBracket(3, 1, 0), BAD);
        due("3 j below", x.setBracket(1, -1, 0), BAD);
        due("3 j above", x.setBracket(1, 3, 0), BAD);
        due("3 far i", x.setBracket(MOST, 0, 0), BAD);
        due("3 far j", x.setBracket(0, LEAST, 0), BAD);
        due("3 value below", x.setBracket(0, 1, -1), BAD);
        due("3 value above", x.setBracket(0, 1, 27), BAD);
        due("3 value far", x.setBracket(0, 1, MOST), BAD);
        due("3 errors change nothing", x.bracket(9, 1), 26);
        LieAlgebra line = Tables.abelian(7, 1);
        due("3 n = 1", line.setBracket(0, 0, 0), BAD);
        due("3 n = 1, j = 1", line.setBracket(0, 1, 0), BAD);
        LieAlgebra two = Tables.abelian(2, 5);
        due("3 modulo 2", two.setBracket(4, 3, 31), 0);
        due("3 is its own negative", two.bracket(8, 16), 31);
    }

    private void promise4() {
        LieAlgebra x = new LieAlgebra();
        due("4 first", x.append(0), 1);
        due("4 last code", x.append(255), 2);
        due("4 below", x.append(-1), BAD);
        due("4 above", x.append(256), BAD);
        due("4 far below", x.append(LEAST), BAD);
        due("4 far above", x.append(MOST), BAD);
        for (int length = 3; length <= 120; length++) {
            due("4 append", x.append('x'), length);
        }
        due("4 full", x.append('x'), FULL);
        due("4 full, wrong below", x.append(-1), BAD);
        due("4 full, wrong above", x.append(256), BAD);
        due("4 length", x.clearText(), 120);
        due("4 anew", x.append('x'), 1);
    }

    private void promise5() {
        LieAlgebra x = new LieAlgebra();
        due("5 empty", x.clearText(), 0);
        Tables.write(x, "[0,1]=e2;");
        due("5 nine", x.clearText(), 9);
        due("5 empty again", x.clearText(), 0);
        due("5 nothing to read", x.loadText(), -10);
        due("5 undo is not touched", x.undo(), STATE);
        Tables.write(x, "[0,1]=e2;");
        due("5 written anew", x.loadText(), 1);
    }

    private void promise6() {
        LieAlgebra x = new LieAlgebra();
        due("6 one item", Tables.load(x, "[0,1]=e2;"), 1);
        due("6 the text is empty", x.clearText(), 0);
        due("6 bracket", x.bracket(1, 3), 9);
        due("6 turned round", x.bracket(3, 1), 18);
        due("6 another item", Tables.load(x, "[2,0]=2e0+e1;"), 1);
        due("6 other brackets stay", x.bracket(1, 3), 9);
        due("6 as it is written", x.bracket(9, 1), 5);
        due("6 negative", x.bracket(1, 9), 7);
        due("6 three items", Tables.load(x, "[0,1]=0;[1,2]=-e0;[0,2]=-2e1-e2+e0;"), 3);
        due("6 a zero", x.bracket(1, 3), 0);
        due("6 minus", x.bracket(3, 9), 2);
        due("6 minus and plus", x.bracket(1, 9), 1 + 3 + 18);
        due("6 terms are added", Tables.load(x, "[0,1]=e0+e0+e0+2e1+2e1-e2-e2;"), 1);
        due("6 their sum", x.bracket(1, 3), 3 + 9);
        due("6 sum 0", Tables.load(x, "[0,1]=e0-e0;"), 1);
        due("6 is 0", x.bracket(1, 3), 0);
        due("6 spaces", Tables.load(x, "  [ 1 , 0 ] = - 2 e 1 + 1 e 2 ; [0 ,2]=0 ;  "), 2);
        due("6 read over spaces", x.bracket(3, 1), 3 + 9);
        LieAlgebra five = Tables.abelian(5, 5);
        due("6 all pairs", Tables.load(five, "[0,1]=e0;[0,2]=e0;[0,3]=e0;[0,4]=e0;[1,2]=e0;"
                + "[1,3]=e0;[1,4]=e0;[2,3]=e0;[2,4]=e0;[4,3]=4e4;"), 10);
        due("6 the last pair", five.bracket(125, 625), 625);
        five.clearText();
        StringBuilder longest = new StringBuilder("[0,1]=e0");
        while (longest.length() < 119) {
            longest.append("+e0");
        }
        longest.append(';');
        due("6 120 signs", longest.length(), 120);
        due("6 longest text", Tables.load(five, longest.toString()), 1);
        due("6 38 terms", five.bracket(1, 5), 3);
        due("6 after an error, mended", Tables.load(x, "[0,1]=e2"), -18);
        x.append(';');
        due("6 goes on", x.loadText(), 1);
        due("6 it was read", x.bracket(1, 3), 9);
        LieAlgebra small = new LieAlgebra();
        Tables.write(small, "[0,3]=4e3;");
        due("6 too large an index", small.loadText(), -13);
        small.configure(5, 4);
        due("6 with the new p and n", small.loadText(), 1);
        due("6 large index", small.bracket(1, 125), 500);
    }

    private void error(int p, int n, String text, int position) {
        LieAlgebra x = Tables.abelian(p, n);
        due("6 (" + p + ", " + n + ") \"" + text + "\"", Tables.load(x, text), -10 - position);
        due("6 kept \"" + text + "\"", x.clearText(), text.length());
    }

    private void promise6ErrorPositions() {
        error(3, 3, "", 0);
        error(3, 3, " ", 1);
        error(3, 3, "   ", 3);
        error(3, 3, "0", 0);
        error(3, 3, "(0,1]=0;", 0);
        error(3, 3, "[", 1);
        error(3, 3, "[ ", 2);
        error(3, 3, "[-1,0]=0;", 1);
        error(3, 3, "[3,0]=0;", 1);
        error(3, 3, "[,0]=0;", 1);
        error(3, 3, "[00,1]=0;", 2);
        error(3, 3, "[0;1]=0;", 2);
        error(3, 3, "[0,", 3);
        error(3, 3, "[0,3]=0;", 3);
        error(3, 3, "[0,]=0;", 3);
        error(3, 3, "[0,0]=0;", 3);
        error(3, 3, "[0,  0]=0;", 5);
        error(3, 3, "[0,1", 4);
        error(3, 3, "[0,1[", 4);
        error(3, 3, "[0,1]0;", 5);
        error(3, 3, "[0,1]", 5);
        error(3, 3, "[0,1]=", 6);
        error(3, 3, "[0,1]=;", 6);
        error(3, 3, "[0,1]=+e0;", 6);
        error(3, 3, "[0,1]=3e0;", 6);
        error(3, 3, "[0,1]=-", 7);
        error(3, 3, "[0,1]=-0;", 7);
        error(3, 3, "[0,1]=--e0;", 7);
        error(3, 3, "[0,1]=-;", 7);
        error(3, 3, "[0,1]=0", 7);
        error(3, 3, "[0,1]=00;", 7);
        error(3, 3, "[0,1]=0e0;", 7);
        error(3, 3, "[0,1]=0+e0;", 7);
        error(3, 3, "[0,1]=2", 7);
        error(3, 3, "[0,1]=2;", 7);
        error(3, 3, "[0,1]=22e0;", 7);
        error(3, 3, "[0,1]=e", 7);
        error(3, 3, "[0,1]=e3;", 7);
        error(3, 3, "[0,1]=e;", 7);
        error(3, 3, "[0,1]=ee0;", 7);
        error(3, 3, "[0,1]=E0;", 6);
        error(3, 3, "[0,1]=e0", 8);
        error(3, 3, "[0,1]=e0   ", 11);
        error(3, 3, "[0,1]=e01;", 8);
        error(3, 3, "[0,1]=e0e1;", 8);
        error(3, 3, "[0,1]=e0[", 8);
        error(3, 3, "[0,1]=e0+", 9);
        error(3, 3, "[0,1]=e0+;", 9);
        error(3, 3, "[0,1]=e0+0;", 9);
        error(3, 3, "[0,1]=e0+-e1;", 9);
        error(3, 3, "[0,1]=e0-+e1;", 9);
        error(3, 3, "[0,1]=e0+3e1;", 9);
        error(3, 3, "[0,1]=e0;;", 9);
        error(3, 3, "[0,1]=e0;x", 9);
        error(3, 3, "[0,1]=e0;\t", 9);
        error(3, 3, "[0,1]=e0;\u0000", 9);
        error(3, 3, "[0,1]=e0;\u00a0", 9);
        error(3, 3, "[0,1]=e0; [", 11);
        error(3, 3, "[0,1]=e0;[0,1]=e0;", 12);
        error(3, 3, "[0,1]=e0;[1,0]=e0;", 12);
        error(3, 3, "[1,0]=e0;[0,1]=e0;", 12);
        error(3, 3, "[0,1]=0;[0,2]=0;[1,0", 19);
        error(3, 3, "[0,1]=0;[0,2]=0;[1,2]=0;[0,", 27);
        error(3, 3, "[0,1]=0;[0,2]=0;[1,2]=0;[0,1]", 27);
        error(2, 2, "[0,1]=2e0;", 6);
        error(2, 2, "[0,1]=1e2;", 8);
        error(2, 1, "[0,1]=0;", 3);
        error(2, 1, "[0,0]=0;", 3);
        error(2, 1, "[1,0]=0;", 1);
        error(7, 5, "[5,0]=0;", 1);
        error(7, 5, "[4,5]=0;", 3);
        error(7, 5, "[4,3]=7e0;", 6);
        error(7, 5, "[4,3]=6e5;", 8);
    }

    private void promise6KeepsAllOnError() {
        LieAlgebra x = Tables.heisenberg(3);
        x.restore(0);
        x.save(0);
        x.restore(0);
        due("6 error in the second item", Tables.load(x, "[0,1]=e0;[0,2]=e1;[1,2]=e9;"), -10 - 25);
        due("6 first item not set", x.bracket(1, 3), 9);
        due("6 second item not set", x.bracket(1, 9), 0);
        due("6 nothing saved", x.undo(), STATE);
        due("6 kept text", x.clearText(), 27);
        due("6 a good text", Tables.load(x, "[0,1]=e0;"), 1);
        due("6 saved once", x.undo(), 0);
        due("6 as before", x.bracket(1, 3), 9);
        due("6 undo leaves the text", x.clearText(), 0);
    }

    private void promise7And8() {
        LieAlgebra x = new LieAlgebra();
        due("7 at first", x.prime(), 3);
        due("8 at first", x.dimension(), 3);
        x.configure(7, 4);
        due("7 configured", x.prime(), 7);
        due("8 configured", x.dimension(), 4);
        x.configure(2, 1);
        due("7 two", x.prime(), 2);
        due("8 one", x.dimension(), 1);
        x.undo();
        due("7 undone", x.prime(), 7);
        due("8 undone", x.dimension(), 4);
        x.configure(4, 1);
        x.configure(5, 6);
        due("7 kept", x.prime(), 7);
        due("8 kept", x.dimension(), 4);
    }

    private void promise9() {
        LieAlgebra x = Tables.simple();
        due("9 [h, e]", x.bracket(1, 5), 10);
        due("9 [e, h]", x.bracket(5, 1), 15);
        due("9 [e, f]", x.bracket(5, 25), 1);
        due("9 bilinear", x.bracket(3 * 1 + 2 * 5, 4 * 5 + 3 * 25), (6 % 5) * 1 + (24 % 5) * 5 + (27 % 5) * 25);
        for (int v = 0; v < 125; v++) {
            due("9 [v, v]", x.bracket(v, v), 0);
            due("9 [v, 0]", x.bracket(v, 0), 0);
            due("9 [0, v]", x.bracket(0, v), 0);
        }
        due("9 u below", x.bracket(-1, 0), BAD);
        due("9 u above", x.bracket(125, 0), BAD);
        due("9 v below", x.bracket(0, -1), BAD);
        due("9 v above", x.bracket(0, 125), BAD);
        due("9 far", x.bracket(LEAST, MOST), BAD);
        LieAlgebra large = Tables.table(7, 5, "[0,4]=6e4+5e3+e0;");
        due("9 large", large.bracket(1, 2401), 1 + 5 * 343 + 6 * 2401);
        due("9 large, times 6", large.bracket(6, 2401), 6 + 2 * 343 + 2401);
        due("9 last vector", large.bracket(16806, 2401), large.bracket(6, 2401));
        due("9 no vector", large.bracket(16807, 1), BAD);
        due("9 n = 1", Tables.abelian(2, 1).bracket(1, 1), 0);
    }

    private void promise10() {
        due("10 no brackets", new LieAlgebra().jacobiFailure(), NONE);
        due("10 simple", Tables.simple().jacobiFailure(), NONE);
        due("10 n = 1", Tables.abelian(3, 1).jacobiFailure(), NONE);
        due("10 n = 2", Tables.table(3, 2, "[0,1]=e0+e1;").jacobiFailure(), NONE);
        due("10 012", Tables.table(3, 3, "[0,1]=e0;[1,2]=e1;[0,2]=e2;").jacobiFailure(), 12);
        due("10 013 before 123", Tables.table(3, 4, "[0,1]=e2;[2,3]=e0;[1,3]=0;").jacobiFailure(), 13);
        due("10 234", Tables.table(3, 5, "[2,3]=e2;[3,4]=e3;[2,4]=e4;").jacobiFailure(), 234);
        due("10 134", Tables.table(2, 5, "[1,3]=e1;[3,4]=e3;[1,4]=e4;").jacobiFailure(), 134);
        due("10 a sum of three that is 0 modulo 3",
                Tables.table(3, 5, "[0,1]=e4;[1,2]=e0;[0,2]=-e1;[3,4]=e4;").jacobiFailure(), 13);
    }

    private void promise11() {
        LieAlgebra x = Tables.solvable();
        due("11 level 0", x.derivedDimension(0), 3);
        due("11 level 1", x.derivedDimension(1), 2);
        due("11 level 2", x.derivedDimension(2), 0);
        due("11 level 9", x.derivedDimension(9), 0);
        due("11 below", x.derivedDimension(-1), BAD);
        due("11 above", x.derivedDimension(10), BAD);
        due("11 far below", x.derivedDimension(LEAST), BAD);
        due("11 far above", x.derivedDimension(MOST), BAD);
        due("11 simple", Tables.simple().derivedDimension(9), 3);
        due("11 chain", Tables.chain(2).derivedDimension(1), 2);
        due("11 chain, 2", Tables.chain(2).derivedDimension(2), 0);
        LieAlgebra long4 = Tables.table(5, 4, "[0,1]=e1;[0,2]=e2;[0,3]=2e3;[1,2]=e3;");
        due("11 valid", long4.jacobiFailure(), NONE);
        due("11 level 1 of 4", long4.derivedDimension(1), 3);
        due("11 level 2 of 4", long4.derivedDimension(2), 1);
        due("11 level 3 of 4", long4.derivedDimension(3), 0);
        due("11 abelian", Tables.abelian(7, 5).derivedDimension(0), 5);
        due("11 abelian, 1", Tables.abelian(7, 5).derivedDimension(1), 0);
    }

    private void promise12() {
        LieAlgebra x = Tables.chain(3);
        due("12 level 0", x.lowerCentralDimension(0), 4);
        due("12 level 1", x.lowerCentralDimension(1), 2);
        due("12 level 2", x.lowerCentralDimension(2), 1);
        due("12 level 3", x.lowerCentralDimension(3), 0);
        due("12 level 9", x.lowerCentralDimension(9), 0);
        due("12 below", x.lowerCentralDimension(-1), BAD);
        due("12 above", x.lowerCentralDimension(10), BAD);
        due("12 far", x.lowerCentralDimension(LEAST), BAD);
        due("12 solvable stays", Tables.solvable().lowerCentralDimension(9), 2);
        LieAlgebra longest = Tables.table(2, 5, "[0,1]=e2;[0,2]=e3;[0,3]=e4;");
        for (int level = 1; level <= 4; level++) {
            due("12 longest", longest.lowerCentralDimension(level), 4 - level);
        }
    }

    private void promise13() {
        LieAlgebra x = Tables.chain(5);
        due("13 e0", x.derivedVector(0, 0), 1);
        due("13 e3", x.derivedVector(0, 3), 125);
        due("13 past the whole space", x.derivedVector(0, 4), NONE);
        due("13 level 1, 0", x.derivedVector(1, 0), 25);
        due("13 level 1, 1", x.derivedVector(1, 1), 125);
        due("13 level 1, 2", x.derivedVector(1, 2), NONE);
        due("13 level 2", x.derivedVector(2, 0), NONE);
        due("13 far index", x.derivedVector(9, MOST), NONE);
        due("13 index below", x.derivedVector(1, -1), BAD);
        due("13 level below", x.derivedVector(-1, 0), BAD);
        due("13 level above", x.derivedVector(10, 0), BAD);
        due("13 level above, no vector", x.derivedVector(10, 9), BAD);
        LieAlgebra y = Tables.table(5, 4, "[0,1]=2e1+4e2+e3;[0,2]=3e2+e3;");
        due("13 reduced, leading 1", y.derivedVector(1, 0), 5 + 4 * 125);
        due("13 reduced, second", y.derivedVector(1, 1), 25 + 2 * 125);
        due("13 reduced, third", y.derivedVector(1, 2), NONE);
    }

    private void promise14() {
        due("14 simple", Tables.simple().kind(), 0);
        due("14 solvable", Tables.solvable().kind(), 1);
        due("14 nilpotent", Tables.heisenberg(7).kind(), 2);
        due("14 abelian", Tables.abelian(2, 5).kind(), 2);
        due("14 n = 1", Tables.abelian(2, 1).kind(), 2);
        due("14 the longest nilpotent", Tables.table(3, 5, "[0,1]=e2;[0,2]=e3;[0,3]=e4;").kind(), 2);
        due("14 simple modulo 2 is nilpotent", Tables.table(2, 3, "[1,2]=e0;").kind(), 2);
        due("14 simple and one more", Tables.table(3, 5, "[0,1]=e2;[1,2]=e0;[2,0]=e1;[3,4]=e4;").kind(), 0);
        due("14 a table that is not valid", Tables.table(3, 3, "[0,1]=e0;[1,2]=e1;[0,2]=e2;").kind(), 0);
    }

    private void promise15() {
        due("15 heisenberg", Tables.heisenberg(2).centerDimension(), 1);
        due("15 simple", Tables.simple().centerDimension(), 0);
        due("15 abelian", Tables.abelian(7, 5).centerDimension(), 5);
        due("15 chain", Tables.chain(3).centerDimension(), 1);
        due("15 two", Tables.table(3, 5, "[0,1]=e2+e3;").centerDimension(), 3);
        due("15 n = 1", Tables.abelian(5, 1).centerDimension(), 1);
    }

    private void promise16() {
        LieAlgebra x = Tables.table(5, 3, "[0,1]=e0;[2,1]=2e0;");
        due("16 one", x.centerDimension(), 1);
        due("16 leading coordinate 1", x.centerVector(0), 1 + 2 * 25);
        due("16 past the end", x.centerVector(1), NONE);
        due("16 far", x.centerVector(MOST), NONE);
        due("16 below", x.centerVector(-1), BAD);
        due("16 far below", x.centerVector(LEAST), BAD);
        due("16 empty", Tables.simple().centerVector(0), NONE);
        due("16 empty, below", Tables.simple().centerVector(-1), BAD);
        LieAlgebra y = Tables.table(3, 5, "[0,1]=e4;[0,2]=e4;[1,3]=e4;[2,3]=e4;");
        due("16 two more", y.centerDimension(), 3);
        due("16 e0 and e3", y.centerVector(0), 1 + 27);
        due("16 e1 and e2", y.centerVector(1), 3 + 2 * 9);
        due("16 e4", y.centerVector(2), 81);
        due("16 no fourth", y.centerVector(3), NONE);
    }

    private void promise17() {
        LieAlgebra x = Tables.heisenberg(5);
        due("17 of 0", x.centralizerDimension(0), 3);
        due("17 of e0", x.centralizerDimension(1), 2);
        due("17 of e2", x.centralizerDimension(25), 3);
        due("17 of the last", x.centralizerDimension(124), 2);
        due("17 below", x.centralizerDimension(-1), BAD);
        due("17 above", x.centralizerDimension(125), BAD);
        due("17 far", x.centralizerDimension(LEAST), BAD);
        due("17 simple", Tables.simple().centralizerDimension(5), 1);
        due("17 chain, e0", Tables.chain(2).centralizerDimension(1), 2);
        due("17 chain, e1", Tables.chain(2).centralizerDimension(2), 3);
    }

    private void promise18() {
        LieAlgebra x = Tables.chain(3);
        due("18 of 0", x.idealDimension(0), 0);
        due("18 of e0", x.idealDimension(1), 3);
        due("18 of e1", x.idealDimension(3), 3);
        due("18 of e2", x.idealDimension(9), 2);
        due("18 of e3", x.idealDimension(27), 1);
        due("18 below", x.idealDimension(-1), BAD);
        due("18 above", x.idealDimension(81), BAD);
        due("18 far", x.idealDimension(MOST), BAD);
        due("18 simple", Tables.simple().idealDimension(7), 3);
        due("18 grows in several rounds", Tables.table(2, 5, "[0,1]=e2;[0,2]=e3;[0,3]=e4;").idealDimension(2), 4);
        due("18 n = 1", Tables.abelian(3, 1).idealDimension(2), 1);
    }

    private void promise19() {
        LieAlgebra x = Tables.chain(3);
        due("19 of 0 and 0", x.subalgebraDimension(0, 0), 0);
        due("19 of one", x.subalgebraDimension(1, 1), 1);
        due("19 of one, times 2", x.subalgebraDimension(1, 2), 1);
        due("19 of one and 0", x.subalgebraDimension(0, 3), 1);
        due("19 of e0 and e1", x.subalgebraDimension(1, 3), 4);
        due("19 of e0 and e2", x.subalgebraDimension(1, 9), 3);
        due("19 of e1 and e2", x.subalgebraDimension(3, 9), 2);
        due("19 u below", x.subalgebraDimension(-1, 0), BAD);
        due("19 u above", x.subalgebraDimension(81, 0), BAD);
        due("19 v below", x.subalgebraDimension(0, -1), BAD);
        due("19 v above", x.subalgebraDimension(0, 81), BAD);
        due("19 simple, h and e", Tables.simple().subalgebraDimension(1, 5), 2);
        due("19 simple, e and f", Tables.simple().subalgebraDimension(5, 25), 3);
        due("19 not an ideal", Tables.heisenberg(3).subalgebraDimension(1, 0), 1);
        due("19 n = 1", Tables.abelian(2, 1).subalgebraDimension(1, 1), 1);
    }

    private void promise20() {
        LieAlgebra x = Tables.chain(5);
        int[] basis = {1, 25, 125, NONE};
        for (int index = 0; index < 4; index++) {
            due("20 reduced by [u, v] = 3e3", x.subalgebraVector(1 + 2 * 25, 3 * 25 + 125, index), basis[index]);
        }
        LieAlgebra y = Tables.abelian(5, 4);
        due("20 two vectors, 0", y.subalgebraVector(2 + 5 + 25, 4 + 2 * 5 + 3 * 125, 0), 1 + 3 * 5 + 2 * 125);
        due("20 two vectors, 1", y.subalgebraVector(2 + 5 + 25, 4 + 2 * 5 + 3 * 125, 1), 25 + 125);
        due("20 two vectors, 2", y.subalgebraVector(2 + 5 + 25, 4 + 2 * 5 + 3 * 125, 2), NONE);
        due("20 index below", x.subalgebraVector(1, 5, -1), BAD);
        due("20 index far below", x.subalgebraVector(1, 5, LEAST), BAD);
        due("20 index far", x.subalgebraVector(1, 5, MOST), NONE);
        due("20 last", x.subalgebraVector(1, 5, 3), 125);
        due("20 past the end", x.subalgebraVector(1, 5, 4), NONE);
        due("20 of 0", x.subalgebraVector(0, 0, 0), NONE);
        due("20 u below", x.subalgebraVector(-1, 0, 0), BAD);
        due("20 u above", x.subalgebraVector(625, 0, 9), BAD);
        due("20 v below", x.subalgebraVector(0, -1, 0), BAD);
        due("20 v above", x.subalgebraVector(0, 625, 9), BAD);
    }

    private void promise21() {
        LieAlgebra x = Tables.simple();
        int[][] adh = {{0, 0, 0}, {0, 2, 0}, {0, 0, 3}};
        int[][] ade = {{0, 0, 1}, {3, 0, 0}, {0, 0, 0}};
        int[][] both = {{0, 0, 4}, {2, 1, 0}, {0, 0, 4}};
        for (int row = 0; row < 3; row++) {
            for (int column = 0; column < 3; column++) {
                due("21 h", x.adjointEntry(1, row, column), adh[row][column]);
                due("21 e", x.adjointEntry(5, row, column), ade[row][column]);
                due("21 3h + 4e", x.adjointEntry(23, row, column), both[row][column]);
                due("21 0", x.adjointEntry(0, row, column), 0);
            }
        }
        due("21 v below", x.adjointEntry(-1, 0, 0), BAD);
        due("21 v above", x.adjointEntry(125, 0, 0), BAD);
        due("21 row below", x.adjointEntry(1, -1, 0), BAD);
        due("21 row above", x.adjointEntry(1, 3, 0), BAD);
        due("21 column below", x.adjointEntry(1, 0, -1), BAD);
        due("21 column above", x.adjointEntry(1, 0, 3), BAD);
        due("21 far", x.adjointEntry(1, LEAST, MOST), BAD);
        due("21 n = 1", Tables.abelian(7, 1).adjointEntry(6, 0, 0), 0);
        due("21 n = 1, row 1", Tables.abelian(7, 1).adjointEntry(6, 1, 0), BAD);
    }

    private void promise22() {
        LieAlgebra x = Tables.table(7, 5, "[0,1]=e2;[0,2]=e3;[0,3]=e4;");
        due("22 of 0", x.nilpotencyIndex(0), 1);
        due("22 of e0", x.nilpotencyIndex(1), 4);
        due("22 of e1", x.nilpotencyIndex(7), 2);
        due("22 of e4", x.nilpotencyIndex(2401), 1);
        due("22 below", x.nilpotencyIndex(-1), BAD);
        due("22 above", x.nilpotencyIndex(16807), BAD);
        due("22 far", x.nilpotencyIndex(MOST), BAD);
        due("22 not nilpotent", Tables.simple().nilpotencyIndex(1), NONE);
        due("22 nilpotent in a simple one", Tables.simple().nilpotencyIndex(5), 3);
        LieAlgebra longest = Tables.table(3, 5, "[0,1]=e2;[0,2]=e3;[0,3]=e4;[0,4]=0;");
        due("22 longest", longest.nilpotencyIndex(1), 4);
        due("22 n = 1", Tables.abelian(5, 1).nilpotencyIndex(3), 1);
        LieAlgebra turn = Tables.table(3, 3, "[0,1]=e2;[0,2]=-e1;");
        due("22 a turn", turn.nilpotencyIndex(1), NONE);
        LieAlgebra two = Tables.table(3, 3, "[0,1]=e1+e2;[0,2]=-e1-e2;");
        due("22 square 0", two.nilpotencyIndex(1), 2);
    }

    private void promise23() {
        LieAlgebra x = Tables.simple();
        due("23 h, h", x.killing(1, 1), 3);
        due("23 e, f", x.killing(5, 25), 4);
        due("23 f, e", x.killing(25, 5), 4);
        due("23 h, e", x.killing(1, 5), 0);
        due("23 sums", x.killing(1 + 5, 2 * 1 + 3 * 25), (2 * 3 + 3 * 4) % 5);
        due("23 0", x.killing(0, 124), 0);
        due("23 u below", x.killing(-1, 0), BAD);
        due("23 u above", x.killing(125, 0), BAD);
        due("23 v below", x.killing(0, -1), BAD);
        due("23 v above", x.killing(0, 125), BAD);
        due("23 far", x.killing(MOST, LEAST), BAD);
        due("23 solvable", Tables.solvable().killing(1, 1), 0);
        due("23 1 + 4 modulo 7", Tables.table(7, 3, "[0,1]=e1;[0,2]=2e2;").killing(1, 1), 5);
    }

    private void promise24() {
        due("24 simple", Tables.simple().killingRadicalDimension(), 0);
        due("24 nilpotent", Tables.chain(3).killingRadicalDimension(), 4);
        due("24 one", Tables.table(5, 2, "[0,1]=e1;").killingRadicalDimension(), 1);
        due("24 1 + 4 is 0 modulo 5", Tables.solvable().killingRadicalDimension(), 3);
        due("24 1 + 4 modulo 7", Tables.table(7, 3, "[0,1]=e1;[0,2]=2e2;").killingRadicalDimension(), 2);
        due("24 and one more", Tables.table(3, 4, "[0,1]=e2;[1,2]=e0;[2,0]=e1;").killingRadicalDimension(), 1);
        due("24 n = 1", Tables.abelian(2, 1).killingRadicalDimension(), 1);
    }

    private void promise25() {
        for (int n = 1; n <= 5; n++) {
            due("25 abelian", Tables.abelian(7, n).derivationDimension(), n * n);
        }
        due("25 simple", Tables.simple().derivationDimension(), 3);
        due("25 heisenberg", Tables.heisenberg(7).derivationDimension(), 6);
        due("25 heisenberg modulo 2", Tables.heisenberg(2).derivationDimension(), 6);
        due("25 two", Tables.table(5, 2, "[0,1]=e1;").derivationDimension(), 2);
        due("25 chain", Tables.chain(5).derivationDimension(), 7);
        LieAlgebra x = Tables.simple();
        LieAlgebra y = Tables.chain(7);
        for (int c = 1; c <= 4; c++) {
            x.addBasis(0, 1, c);
            x.addBasis(1, 2, c);
            x.addBasis(2, 0, c);
            y.addBasis(0, 1, c);
            y.addBasis(1, 2, c);
            y.addBasis(3, 0, c);
            due("25 simple, in another basis", x.derivationDimension(), 3);
            due("25 chain, in another basis", y.derivationDimension(), 7);
        }
        LieAlgebra z = Tables.table(7, 3, "[0,1]=2e1;[0,2]=-2e2;[1,2]=e1;");
        due("25 a table that is not valid", z.jacobiFailure(), 12);
        due("25 e1 to e1, and e2 to e1 with e0 to -4e1", z.derivationDimension(), 2);
    }

    private void promise26() {
        LieAlgebra x = Tables.table(5, 2, "[0,1]=e1;");
        due("26 stays", x.addBasis(0, 1, 2), 5);
        due("26 e1 + 3 e0", x.addBasis(1, 0, 3), 3 + 4 * 5);
        due("26 bracket", x.bracket(1, 5), 7);
        due("26 the other order", x.addBasis(1, 0, 4), x.bracket(5, 1));
        LieAlgebra y = Tables.simple();
        due("26 h + 2e", y.addBasis(0, 1, 2), 10);
        due("26 [h + 2e, f] = 2h - 2f", y.bracket(1, 25), 2 + 1 * 5 + 3 * 25);
        due("26 [e, f] = h", y.bracket(5, 25), 1 + 3 * 5);
        due("26 valid", y.jacobiFailure(), NONE);
        due("26 back", y.addBasis(0, 1, 3), 10);
        due("26 as it was", y.bracket(5, 25), 1);
        due("26 as it was, 2", y.bracket(1, 25), 75);
        due("26 c = 0", y.addBasis(0, 1, 0), BAD);
        due("26 c = p", y.addBasis(0, 1, 5), BAD);
        due("26 c below", y.addBasis(0, 1, -1), BAD);
        due("26 i = j", y.addBasis(1, 1, 1), BAD);
        due("26 i below", y.addBasis(-1, 1, 1), BAD);
        due("26 i above", y.addBasis(3, 1, 1), BAD);
        due("26 j below", y.addBasis(1, -1, 1), BAD);
        due("26 j above", y.addBasis(1, 3, 1), BAD);
        due("26 errors change nothing", y.bracket(1, 5), 10);
        due("26 n = 1", Tables.abelian(3, 1).addBasis(0, 0, 1), BAD);
        due("26 modulo 2, c = 2", Tables.heisenberg(2).addBasis(0, 1, 2), BAD);
    }

    private void promise27() {
        LieAlgebra x = Tables.simple();
        due("27 six pairs", x.scaleBasis(0, 2), 6);
        due("27 [2h, e]", x.bracket(1, 5), 20);
        due("27 [e, f] = 3 (2h)", x.bracket(5, 25), 3);
        due("27 c = 1", x.scaleBasis(1, 1), 6);
        due("27 c = 1 changes nothing", x.bracket(1, 5), 20);
        due("27 last c", x.scaleBasis(2, 4), 6);
        due("27 [e, 4f]", x.bracket(5, 25), 2);
        due("27 c = 0", x.scaleBasis(0, 0), BAD);
        due("27 c = p", x.scaleBasis(0, 5), BAD);
        due("27 c below", x.scaleBasis(0, -1), BAD);
        due("27 i below", x.scaleBasis(-1, 1), BAD);
        due("27 i above", x.scaleBasis(3, 1), BAD);
        due("27 far", x.scaleBasis(MOST, LEAST), BAD);
        due("27 no pair", Tables.abelian(3, 5).scaleBasis(4, 2), 0);
        due("27 two pairs", Tables.heisenberg(3).scaleBasis(0, 2), 2);
        due("27 four pairs", Tables.chain(7).scaleBasis(3, 6), 4);
        due("27 n = 1", Tables.abelian(7, 1).scaleBasis(0, 6), 0);
        int[] inverses = {0, 1, 4, 5, 2, 3, 6};
        for (int c = 1; c < 7; c++) {
            LieAlgebra y = Tables.heisenberg(7);
            due("27 c e2", y.scaleBasis(2, c), 2);
            due("27 1/c", y.bracket(1, 7), 49 * inverses[c]);
        }
    }

    private void promise28() {
        LieAlgebra x = Tables.table(5, 3, "[0,1]=2e0+3e1+4e2;[0,2]=e1;");
        due("28 [e1, e0] in the new basis", x.swapBasis(0, 1), 2 + 3 * 5 + 1 * 25);
        due("28 [f1, f2] = f0", x.bracket(5, 25), 1);
        due("28 [f0, f2]", x.bracket(1, 25), 0);
        due("28 the other order", x.swapBasis(1, 0), 3 + 2 * 5 + 1 * 25);
        due("28 as it was", x.bracket(1, 5), 2 + 3 * 5 + 4 * 25);
        due("28 i = j", x.swapBasis(1, 1), BAD);
        due("28 i below", x.swapBasis(-1, 1), BAD);
        due("28 i above", x.swapBasis(3, 1), BAD);
        due("28 j below", x.swapBasis(1, -1), BAD);
        due("28 j above", x.swapBasis(1, 3), BAD);
        due("28 far", x.swapBasis(MOST, LEAST), BAD);
        due("28 errors change nothing", x.bracket(1, 5), 2 + 3 * 5 + 4 * 25);
        due("28 n = 1", Tables.abelian(3, 1).swapBasis(0, 0), BAD);
        due("28 swaps the ends", Tables.heisenberg(3).swapBasis(0, 2), 0);
    }

    private void promise29() {
        LieAlgebra x = new LieAlgebra();
        due("29 nothing saved", x.undo(), STATE);
        for (int k = 1; k <= 9; k++) {
            x.setBracket(0, 1, k);
        }
        for (int left = 5; left >= 0; left--) {
            due("29 left", x.undo(), left);
            due("29 bracket", x.bracket(1, 3), left + 3);
        }
        due("29 the seventh was dropped", x.undo(), STATE);
        due("29 unchanged", x.bracket(1, 3), 3);
        x.configure(7, 5);
        x.setBracket(3, 4, 16806);
        x.configure(2, 2);
        due("29 configure undone", x.undo(), 2);
        due("29 p", x.prime(), 7);
        due("29 n", x.dimension(), 5);
        due("29 brackets", x.bracket(343, 2401), 16806);
        due("29 set undone", x.undo(), 1);
        due("29 gone", x.bracket(343, 2401), 0);
        x.setBracket(0, 1, 1);
        due("29 saved anew", x.undo(), 1);
        due("29 the first of three", x.undo(), 0);
        due("29 empty", x.undo(), STATE);
    }

    private void promise29SavesOnSuccessOnly() {
        LieAlgebra x = Tables.heisenberg(3);
        x.save(0);
        x.restore(0);
        x.configure(4, 1);
        x.setBracket(1, 1, 0);
        x.addBasis(0, 1, 3);
        x.scaleBasis(3, 1);
        x.swapBasis(2, 2);
        x.loadText();
        x.append(300);
        x.save(2);
        x.restore(2);
        due("29 errors save nothing", x.undo(), STATE);
        x.bracket(1, 3);
        x.derivationDimension();
        x.save(1);
        x.append(48);
        x.clearText();
        due("29 questions save nothing", x.undo(), STATE);
        x.addBasis(0, 1, 2);
        x.scaleBasis(0, 2);
        x.swapBasis(0, 2);
        Tables.load(x, "[0,1]=e0;");
        x.setBracket(0, 1, 1);
        x.configure(3, 3);
        int[] values = {1, 0, 18, 9, 9, 9};
        for (int k = 0; k < 6; k++) {
            int left = 5 - k;
            due("29 each of six was saved", x.undo(), left);
            if (k == 0 || k == 3) {
                due("29 bracket " + k, x.bracket(1, 3), k == 0 ? 1 : 18);
            }
        }
        due("29 no more", x.undo(), STATE);
        due("29 the first state", x.bracket(1, 3), values[5]);
    }

    private void promise30() {
        LieAlgebra x = new LieAlgebra();
        due("30 slot 0", x.save(0), 3);
        x.configure(7, 5);
        due("30 slot 1", x.save(1), 5);
        due("30 below", x.save(-1), BAD);
        due("30 above", x.save(2), BAD);
        due("30 far", x.save(MOST), BAD);
        due("30 far below", x.save(LEAST), BAD);
        due("30 keeps undo", x.undo(), 0);
        due("30 slots are apart", x.restore(1), 5);
        due("30 slots are apart, 0", x.restore(0), 3);
        x.configure(2, 2);
        x.save(0);
        due("30 written over", x.restore(0), 2);
        x.setBracket(0, 1, 3);
        due("30 a copy", x.restore(0), 2);
        due("30 not the later state", x.bracket(1, 2), 0);
    }

    private void promise31() {
        LieAlgebra x = new LieAlgebra();
        due("31 empty 0", x.restore(0), STATE);
        due("31 empty 1", x.restore(1), STATE);
        due("31 below", x.restore(-1), BAD);
        due("31 above", x.restore(2), BAD);
        due("31 far", x.restore(LEAST), BAD);
        x.configure(5, 4);
        x.setBracket(0, 1, 600);
        x.save(0);
        due("31 still empty", x.restore(1), STATE);
        due("31 errors keep undo", x.undo(), 1);
        x.configure(2, 1);
        Tables.write(x, "abc");
        due("31 dimension afterwards", x.restore(0), 4);
        due("31 prime", x.prime(), 5);
        due("31 bracket", x.bracket(1, 5), 600);
        due("31 undo is empty", x.undo(), STATE);
        due("31 the text stays", x.clearText(), 3);
        x.setBracket(0, 1, 7);
        due("31 saved after it", x.undo(), 0);
        x.setBracket(0, 1, 8);
        due("31 the slot is kept", x.restore(0), 4);
        due("31 unchanged", x.bracket(1, 5), 600);
        due("31 discards again", x.undo(), STATE);
    }
}
