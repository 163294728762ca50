import java.util.Random;

/**
 * Far and near arguments for every call in many states. No call may throw,
 * an answer stays in its range, and a call that answers an error or asks a
 * question changes nothing.
 */
public final class ExtremesTest {
    private static final int METHODS = 30;
    private static final int[] ARGUMENTS = {
        Integer.MIN_VALUE, Integer.MIN_VALUE + 1, -1000000007, -65536, -257, -256, -26, -25, -10, -9, -8,
        -7, -6, -5, -4, -3, -2, -1, 0, 1, 2, 3, 4, 5, 6, 7, 8, 9, 10, 24, 25, 26, 27, 31, 32, 48, 91, 119,
        120, 121, 124, 125, 126, 127, 242, 243, 255, 256, 257, 342, 343, 1024, 2400, 2401, 16806, 16807,
        16808, 65535, 65536, 1000000007, Integer.MAX_VALUE - 1, Integer.MAX_VALUE};

    private final Check check = new Check();
    private final Random random = new Random(20261119);

    public static void main(String[] args) {
        ExtremesTest t = new ExtremesTest();
        for (int p : new int[] {2, 3, 5, 7}) {
            for (int n = 1; n <= 5; n++) {
                t.errorsChangeNothing(p, n);
                t.everyArgument(p, n);
            }
        }
        t.check.end();
    }

    private LieAlgebra filled(int p, int n) {
        LieAlgebra x = new LieAlgebra();
        int count = x.configure(p, n);
        x.save(0);
        for (int i = 0; i < n; i++) {
            for (int j = i + 1; j < n; j++) {
                x.setBracket(i, j, random.nextInt(count));
            }
        }
        x.append('[');
        return x;
    }

    private void everyArgument(int p, int n) {
        LieAlgebra x = filled(p, n);
        for (int method = 0; method < METHODS; method++) {
            for (int a : ARGUMENTS) {
                for (int k = 0; k < 12; k++) {
                    int answer = call(x, method, a, argument(), argument());
                    check.dueTrue("method " + method + " answers in its range: " + answer,
                            answer >= (method == 4 ? -130 : -9) && answer <= 16807);
                }
            }
        }
    }

    private int argument() {
        return ARGUMENTS[random.nextInt(ARGUMENTS.length)];
    }

    private void errorsChangeNothing(int p, int n) {
        LieAlgebra x = filled(p, n);
        for (int method = 0; method < METHODS; method++) {
            for (int k = 0; k < 60; k++) {
                int a = argument();
                int b = argument();
                int c = argument();
                LieAlgebra twin = new LieAlgebra();
                twin.configure(p, n);
                copyBrackets(x, twin);
                twin.append('[');
                twin.save(0);
                int before = fingerprint(twin, n);
                boolean asks = method >= 5 && method <= 23 || method == 27;
                if (call(twin, method, a, b, c) < 0 || asks) {
                    check.due("method " + method + " with " + a + ", " + b + ", " + c, fingerprint(twin, n), before);
                    check.due("text after method " + method, twin.clearText(), 1);
                    check.due("saved after method " + method, savedStates(twin), Math.min(6, 1 + n * (n - 1) / 2));
                }
            }
        }
    }

    private static void copyBrackets(LieAlgebra from, LieAlgebra to) {
        int u = 1;
        for (int i = 0; i < from.dimension(); i++) {
            int v = 1;
            for (int j = 0; j < from.dimension(); j++) {
                if (i < j) {
                    to.setBracket(i, j, from.bracket(u, v));
                }
                v *= from.prime();
            }
            u *= from.prime();
        }
    }

    private static int fingerprint(LieAlgebra x, int n) {
        int hash = x.prime() * 31 + x.dimension();
        int u = 1;
        for (int i = 0; i < n; i++) {
            int v = 1;
            for (int j = 0; j < n; j++) {
                hash = hash * 31 + x.bracket(u, v);
                v *= x.prime();
            }
            u *= x.prime();
        }
        return hash;
    }

    private static int savedStates(LieAlgebra x) {
        int states = 0;
        while (x.undo() >= 0) {
            states++;
        }
        return states;
    }

    private static int call(LieAlgebra x, int method, int a, int b, int c) {
        switch (method) {
            case 0: return x.configure(a, b);
            case 1: return x.setBracket(a, b, c);
            case 2: return x.append(a);
            case 3: return x.clearText();
            case 4: return x.loadText();
            case 5: return x.prime();
            case 6: return x.dimension();
            case 7: return x.bracket(a, b);
            case 8: return x.jacobiFailure();
            case 9: return x.derivedDimension(a);
            case 10: return x.lowerCentralDimension(a);
            case 11: return x.derivedVector(a, b);
            case 12: return x.kind();
            case 13: return x.centerDimension();
            case 14: return x.centerVector(a);
            case 15: return x.centralizerDimension(a);
            case 16: return x.idealDimension(a);
            case 17: return x.subalgebraDimension(a, b);
            case 18: return x.subalgebraVector(a, b, c);
            case 19: return x.adjointEntry(a, b, c);
            case 20: return x.nilpotencyIndex(a);
            case 21: return x.killing(a, b);
            case 22: return x.killingRadicalDimension();
            case 23: return x.derivationDimension();
            case 24: return x.addBasis(a, b, c);
            case 25: return x.scaleBasis(a, b);
            case 26: return x.swapBasis(a, b);
            case 27: return x.save(a);
            case 28: return x.restore(a);
            default: return x.undo();
        }
    }
}
