import java.util.Random;

/** Long runs of calls, each asked of the class and of the model, with tables of many kinds. */
public final class ModelTest {
    private static final int RUNS = 320;
    private static final int CALLS = 512;
    private static final int[] PRIMES = {2, 3, 5, 7};

    private final Check check;
    private final Random random;
    private final LieAlgebra x = new LieAlgebra();
    private final Model m = new Model();
    private final int run;
    private int calls = 0;

    private ModelTest(Check check, int run) {
        this.check = check;
        this.run = run;
        // A fixed seed for each run, so that every run can be had again.
        this.random = new Random(run * 7919L + 17);
    }

    public static void main(String[] args) {
        Check check = new Check();
        for (int run = 0; run < RUNS; run++) {
            new ModelTest(check, run).walk();
        }
        check.end();
    }

    private void due(String call, int got, int want) {
        calls++;
        check.due("run " + run + ", call " + calls + ": " + call, got, want);
    }

    private void walk() {
        int largest = run % 8 == 0 ? 16807 : run % 4 == 0 ? 3125 : 343;
        begin(largest);
        while (calls < CALLS - 130) {
            int what = random.nextInt(100);
            if (what < 2) {
                begin(largest);
            } else if (what < 30) {
                changeState();
            } else if (what < 34) {
                text();
            } else {
                ask();
            }
        }
    }

    // ---- tables

    private void begin(int largest) {
        int p;
        int n;
        do {
            p = PRIMES[random.nextInt(4)];
            n = 1 + random.nextInt(5);
        } while (Math.pow(p, n) > largest || n < 3 && random.nextInt(3) > 0);
        due("configure(" + p + ", " + n + ")", x.configure(p, n), m.configure(p, n));
        int style = random.nextInt(7);
        for (int i = 0; i < n; i++) {
            for (int j = i + 1; j < n; j++) {
                setBracket(i, j, value(style, i, j, p, n));
            }
        }
        for (int k = random.nextInt(4); k > 0; k--) {
            changeBasis();
        }
    }

    /** A bracket for one of several kinds of tables: dense, sparse, nilpotent, solvable, simple ones. */
    private int value(int style, int i, int j, int p, int n) {
        int value = 0;
        int unit = 1;
        for (int k = 0; k < n; k++) {
            boolean here;
            switch (style) {
                case 0: here = true; break;
                case 1: here = random.nextInt(5) == 0; break;
                case 2: here = k > j; break;
                case 3: here = k >= j; break;
                case 4: here = n >= 3 && i + j + k == 3 && i < 3 && j < 3; break;
                case 5: here = i == 0 && k == j + 1; break;
                default: here = i == 0 && k == j; break;
            }
            if (here) {
                value += unit * (style == 4 || style == 5 ? 1 : random.nextInt(p));
            }
            unit *= p;
        }
        return value;
    }

    // ---- arguments

    private int vectors() {
        return (int) Math.round(Math.pow(m.prime(), m.dimension()));
    }

    private int vector() {
        switch (random.nextInt(20)) {
            case 0: return -1 - random.nextInt(3);
            case 1: return vectors() + random.nextInt(3);
            case 2: return vectors() - 1;
            case 3: return 0;
            default: break;
        }
        if (random.nextInt(3) == 0) {
            return (int) Math.round(Math.pow(m.prime(), random.nextInt(m.dimension())));
        }
        return random.nextInt(vectors());
    }

    private int index() {
        return random.nextInt(14) == 0 ? random.nextInt(9) - 2 : random.nextInt(m.dimension());
    }

    private int factor() {
        return random.nextInt(14) == 0 ? random.nextInt(12) - 2 : 1 + random.nextInt(m.prime() - 1);
    }

    private int level() {
        return random.nextInt(12) == 0 ? random.nextInt(14) - 2 : random.nextInt(5);
    }

    private int number() {
        return random.nextInt(7) - 1;
    }

    private int slot() {
        return random.nextInt(8) == 0 ? random.nextInt(6) - 2 : random.nextInt(2);
    }

    // ---- calls

    private void setBracket(int i, int j, int value) {
        due("setBracket(" + i + ", " + j + ", " + value + ")",
                x.setBracket(i, j, value), m.setBracket(i, j, value));
    }

    private void changeBasis() {
        int i = index();
        int j = index();
        int c = factor();
        switch (random.nextInt(3)) {
            case 0:
                due("addBasis(" + i + ", " + j + ", " + c + ")", x.addBasis(i, j, c), m.addBasis(i, j, c));
                break;
            case 1:
                due("scaleBasis(" + i + ", " + c + ")", x.scaleBasis(i, c), m.scaleBasis(i, c));
                break;
            default:
                due("swapBasis(" + i + ", " + j + ")", x.swapBasis(i, j), m.swapBasis(i, j));
                break;
        }
    }

    private void changeState() {
        int slot = slot();
        switch (random.nextInt(10)) {
            case 0:
            case 1:
                setBracket(index(), index(), random.nextInt(3) == 0 ? 0 : vector());
                break;
            case 2:
            case 3:
            case 4:
                due("undo()", x.undo(), m.undo());
                break;
            case 5:
                due("save(" + slot + ")", x.save(slot), m.save(slot));
                break;
            case 6:
                if (random.nextInt(3) == 0) {
                    due("restore(" + slot + ")", x.restore(slot), m.restore(slot));
                }
                break;
            default:
                changeBasis();
                break;
        }
    }

    private void ask() {
        int u = vector();
        int v = vector();
        int a = number();
        int l = level();
        int i = index();
        int j = index();
        switch (random.nextInt(20)) {
            case 0: due("prime()", x.prime(), m.prime()); break;
            case 1: due("dimension()", x.dimension(), m.dimension()); break;
            case 2:
            case 3: due("bracket(" + u + ", " + v + ")", x.bracket(u, v), m.bracket(u, v)); break;
            case 4: due("jacobiFailure()", x.jacobiFailure(), m.jacobiFailure()); break;
            case 5: due("derivedDimension(" + l + ")", x.derivedDimension(l), m.derivedDimension(l)); break;
            case 6: due("lowerCentralDimension(" + l + ")", x.lowerCentralDimension(l), m.lowerCentralDimension(l)); break;
            case 7: due("derivedVector(" + l + ", " + a + ")", x.derivedVector(l, a), m.derivedVector(l, a)); break;
            case 8: due("kind()", x.kind(), m.kind()); break;
            case 9: due("centerDimension()", x.centerDimension(), m.centerDimension()); break;
            case 10: due("centerVector(" + a + ")", x.centerVector(a), m.centerVector(a)); break;
            case 11: due("centralizerDimension(" + v + ")", x.centralizerDimension(v), m.centralizerDimension(v)); break;
            case 12: due("idealDimension(" + v + ")", x.idealDimension(v), m.idealDimension(v)); break;
            case 13: due("subalgebraDimension(" + u + ", " + v + ")", x.subalgebraDimension(u, v), m.subalgebraDimension(u, v)); break;
            case 14: due("subalgebraVector(" + u + ", " + v + ", " + a + ")", x.subalgebraVector(u, v, a), m.subalgebraVector(u, v, a)); break;
            case 15: due("adjointEntry(" + v + ", " + i + ", " + j + ")", x.adjointEntry(v, i, j), m.adjointEntry(v, i, j)); break;
            case 16: due("nilpotencyIndex(" + v + ")", x.nilpotencyIndex(v), m.nilpotencyIndex(v)); break;
            case 17: due("killing(" + u + ", " + v + ")", x.killing(u, v), m.killing(u, v)); break;
            case 18: due("killingRadicalDimension()", x.killingRadicalDimension(), m.killingRadicalDimension()); break;
            default: due("derivationDimension()", x.derivationDimension(), m.derivationDimension()); break;
        }
    }

    // ---- texts

    private void text() {
        String text = randomText();
        for (int k = 0; k < text.length() && calls < CALLS - 10; k++) {
            int ch = text.charAt(k);
            due("append(" + ch + ")", x.append(ch), m.append(ch));
        }
        due("loadText()", x.loadText(), m.loadText());
        if (random.nextInt(3) > 0) {
            due("clearText()", x.clearText(), m.clearText());
        }
    }

    private String randomText() {
        StringBuilder text = new StringBuilder();
        int items = 1 + random.nextInt(3);
        for (int k = 0; k < items; k++) {
            int i = random.nextInt(m.dimension());
            int j = random.nextInt(m.dimension());
            if (i == j && random.nextInt(6) > 0) {
                j = (i + 1) % m.dimension();
            }
            text.append('[').append(i).append(',').append(j).append("]=").append(randomValue()).append(';');
        }
        for (int k = random.nextInt(4); k > 0; k--) {
            text.insert(random.nextInt(text.length() + 1), ' ');
        }
        if (random.nextInt(2) == 0) {
            spoil(text);
        }
        return text.toString();
    }

    private String randomValue() {
        if (random.nextInt(6) == 0) {
            return "0";
        }
        StringBuilder value = new StringBuilder(random.nextInt(3) == 0 ? "-" : "");
        int terms = 1 + random.nextInt(3);
        for (int k = 0; k < terms; k++) {
            if (k > 0) {
                value.append(random.nextBoolean() ? '+' : '-');
            }
            if (random.nextBoolean()) {
                value.append(1 + random.nextInt(m.prime() - 1));
            }
            value.append('e').append(random.nextInt(m.dimension()));
        }
        return value.toString();
    }

    /** Puts in, takes out or changes one character, or ends the text early. */
    private void spoil(StringBuilder text) {
        String signs = "[],=+-e;0123456789 x\t\u0000\u00ff";
        char sign = signs.charAt(random.nextInt(signs.length()));
        int place = random.nextInt(text.length());
        switch (random.nextInt(4)) {
            case 0: text.insert(place, sign); break;
            case 1: text.deleteCharAt(place); break;
            case 2: text.setCharAt(place, sign); break;
            default: text.setLength(place); break;
        }
    }
}
