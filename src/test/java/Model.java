import java.util.ArrayDeque;
import java.util.ArrayList;
import java.util.Deque;
import java.util.List;

/**
 * A second LieAlgebra, which finds its answers in another way: it lists the
 * vectors of every subspace, searches all vectors for the ones asked for, and
 * reads texts with a table of states. Slow, and plain.
 */
final class Model {
    private static final class State {
        final int p;
        final int n;
        final int[][][] c;

        State(int p, int n) {
            this.p = p;
            this.n = n;
            this.c = new int[n][n][n];
        }

        State copy() {
            State other = new State(p, n);
            for (int i = 0; i < n; i++) {
                for (int j = 0; j < n; j++) {
                    other.c[i][j] = c[i][j].clone();
                }
            }
            return other;
        }

        void set(int i, int j, int[] value) {
            for (int k = 0; k < n; k++) {
                c[i][j][k] = value[k];
                c[j][i][k] = (p - value[k]) % p;
            }
        }
    }

    private State s = new State(3, 3);
    private final Deque<State> saved = new ArrayDeque<>();
    private final State[] slots = new State[2];
    private String text = "";

    // ---- vectors

    private int count() {
        int q = 1;
        for (int i = 0; i < s.n; i++) {
            q *= s.p;
        }
        return q;
    }

    private int[] vec(int number) {
        int[] v = new int[s.n];
        for (int i = 0; i < s.n; i++) {
            v[i] = number % s.p;
            number /= s.p;
        }
        return v;
    }

    private int num(int[] v) {
        int number = 0;
        for (int i = s.n - 1; i >= 0; i--) {
            number = number * s.p + Math.floorMod(v[i], s.p);
        }
        return number;
    }

    private int[] unit(int i) {
        int[] v = new int[s.n];
        v[i] = 1;
        return v;
    }

    private int[] br(int[] u, int[] v) {
        int[] w = new int[s.n];
        for (int i = 0; i < s.n; i++) {
            for (int j = 0; j < s.n; j++) {
                for (int k = 0; k < s.n; k++) {
                    w[k] = (w[k] + u[i] * v[j] * s.c[i][j][k]) % s.p;
                }
            }
        }
        return w;
    }

    private boolean vector(int v) {
        return 0 <= v && v < count();
    }

    private boolean index(int i) {
        return 0 <= i && i < s.n;
    }

    // ---- subspaces as sets of vectors

    private boolean[] span(List<int[]> generators) {
        boolean[] in = new boolean[count()];
        List<Integer> members = new ArrayList<>();
        in[0] = true;
        members.add(0);
        for (int[] g : generators) {
            if (in[num(g)]) {
                continue;
            }
            int before = members.size();
            for (int f = 1; f < s.p; f++) {
                for (int m = 0; m < before; m++) {
                    int[] w = vec(members.get(m));
                    for (int k = 0; k < s.n; k++) {
                        w[k] += f * g[k];
                    }
                    in[num(w)] = true;
                    members.add(num(w));
                }
            }
        }
        return in;
    }

    private int dim(boolean[] in) {
        int size = 0;
        for (boolean b : in) {
            if (b) {
                size++;
            }
        }
        int d = 0;
        while (size > 1) {
            size /= s.p;
            d++;
        }
        return d;
    }

    private int lead(int[] v) {
        for (int i = 0; i < v.length; i++) {
            if (v[i] != 0) {
                return i;
            }
        }
        return -1;
    }

    /** The canonical basis, by its words: each vector is searched for. */
    private List<int[]> canonical(boolean[] in) {
        boolean[] leads = new boolean[s.n];
        for (int x = 1; x < in.length; x++) {
            if (in[x]) {
                leads[lead(vec(x))] = true;
            }
        }
        List<int[]> basis = new ArrayList<>();
        for (int l = 0; l < s.n; l++) {
            if (!leads[l]) {
                continue;
            }
            for (int x = 1; x < in.length; x++) {
                if (in[x] && isCanonical(vec(x), l, leads)) {
                    basis.add(vec(x));
                }
            }
        }
        return basis;
    }

    private boolean isCanonical(int[] v, int l, boolean[] leads) {
        if (lead(v) != l || v[l] != 1) {
            return false;
        }
        for (int k = 0; k < s.n; k++) {
            if (k != l && leads[k] && v[k] != 0) {
                return false;
            }
        }
        return true;
    }

    private int member(boolean[] in, int index) {
        List<int[]> basis = canonical(in);
        return index < basis.size() ? num(basis.get(index)) : LieAlgebra.NONE;
    }

    private boolean[] all() {
        boolean[] in = new boolean[count()];
        java.util.Arrays.fill(in, true);
        return in;
    }

    private boolean[] product(boolean[] u, boolean[] v) {
        List<int[]> generators = new ArrayList<>();
        for (int[] a : canonical(u)) {
            for (int[] b : canonical(v)) {
                generators.add(br(a, b));
            }
        }
        return span(generators);
    }

    private boolean[] derived(int level) {
        boolean[] in = all();
        for (int k = 0; k < level; k++) {
            in = product(in, in);
        }
        return in;
    }

    private boolean[] lower(int level) {
        boolean[] in = all();
        for (int k = 0; k < level; k++) {
            in = product(all(), in);
        }
        return in;
    }

    private boolean[] center() {
        boolean[] in = new boolean[count()];
        for (int x = 0; x < in.length; x++) {
            in[x] = true;
            for (int i = 0; i < s.n && in[x]; i++) {
                in[x] = num(br(vec(x), unit(i))) == 0;
            }
        }
        return in;
    }

    private boolean[] ideal(int v) {
        List<int[]> generators = new ArrayList<>();
        generators.add(vec(v));
        boolean[] in = span(generators);
        for (int g = 0; g < generators.size(); g++) {
            for (int i = 0; i < s.n; i++) {
                int[] w = br(unit(i), generators.get(g));
                if (!in[num(w)]) {
                    generators.add(w);
                    in = span(generators);
                }
            }
        }
        return in;
    }

    private boolean[] subalgebra(int u, int v) {
        List<int[]> generators = new ArrayList<>();
        generators.add(vec(u));
        generators.add(vec(v));
        boolean[] in = span(generators);
        boolean again = true;
        while (again) {
            again = false;
            int size = generators.size();
            for (int a = 0; a < size; a++) {
                for (int b = 0; b < size; b++) {
                    int[] w = br(generators.get(a), generators.get(b));
                    if (!in[num(w)]) {
                        generators.add(w);
                        in = span(generators);
                        again = true;
                    }
                }
            }
        }
        return in;
    }

    // ---- matrices

    private int[][] ad(int[] v) {
        int[][] m = new int[s.n][s.n];
        for (int j = 0; j < s.n; j++) {
            int[] w = br(v, unit(j));
            for (int i = 0; i < s.n; i++) {
                m[i][j] = w[i];
            }
        }
        return m;
    }

    private int[][] times(int[][] a, int[][] b) {
        int[][] m = new int[s.n][s.n];
        for (int i = 0; i < s.n; i++) {
            for (int j = 0; j < s.n; j++) {
                for (int k = 0; k < s.n; k++) {
                    m[i][j] = (m[i][j] + a[i][k] * b[k][j]) % s.p;
                }
            }
        }
        return m;
    }

    private boolean isZero(int[][] m) {
        for (int[] row : m) {
            for (int x : row) {
                if (x != 0) {
                    return false;
                }
            }
        }
        return true;
    }

    private int kill(int[] u, int[] v) {
        int[][] m = times(ad(u), ad(v));
        int trace = 0;
        for (int i = 0; i < s.n; i++) {
            trace += m[i][i];
        }
        return trace % s.p;
    }

    /** Whether a matrix (its entries in rows) is a derivation, tried on all pairs of basis vectors. */
    private boolean derives(int[] d) {
        for (int i = 0; i < s.n; i++) {
            for (int j = 0; j < s.n; j++) {
                int[] left = image(d, s.c[i][j]);
                int[] a = br(image(d, unit(i)), unit(j));
                int[] b = br(unit(i), image(d, unit(j)));
                for (int k = 0; k < s.n; k++) {
                    if (left[k] != (a[k] + b[k]) % s.p) {
                        return false;
                    }
                }
            }
        }
        return true;
    }

    private int[] image(int[] d, int[] v) {
        int[] w = new int[s.n];
        for (int i = 0; i < s.n; i++) {
            for (int j = 0; j < s.n; j++) {
                w[i] = (w[i] + d[i * s.n + j] * v[j]) % s.p;
            }
        }
        return w;
    }

    /** n^2 less the rank of the map that takes D to the faults of D, by columns. */
    private int derivationsByRank() {
        int unknowns = s.n * s.n;
        List<int[]> faults = new ArrayList<>();
        for (int x = 0; x < unknowns; x++) {
            int[] d = new int[unknowns];
            d[x] = 1;
            int[] fault = new int[s.n * s.n * s.n];
            for (int i = 0; i < s.n; i++) {
                for (int j = 0; j < s.n; j++) {
                    int[] left = image(d, s.c[i][j]);
                    int[] a = br(image(d, unit(i)), unit(j));
                    int[] b = br(unit(i), image(d, unit(j)));
                    for (int k = 0; k < s.n; k++) {
                        fault[(i * s.n + j) * s.n + k] = Math.floorMod(left[k] - a[k] - b[k], s.p);
                    }
                }
            }
            faults.add(fault);
        }
        return unknowns - rank(faults);
    }

    private int rank(List<int[]> rows) {
        int rank = 0;
        List<int[]> rest = new ArrayList<>(rows);
        while (!rest.isEmpty()) {
            int[] pivot = rest.remove(rest.size() - 1);
            int l = lead(pivot);
            if (l < 0) {
                continue;
            }
            rank++;
            for (int[] row : rest) {
                // Cross multiplication, so that nothing has to be divided.
                int f = row[l];
                for (int k = 0; k < row.length; k++) {
                    row[k] = Math.floorMod(row[k] * pivot[l] - f * pivot[k], s.p);
                }
            }
        }
        return rank;
    }

    private int derivationsBySearch(long matrices) {
        long found = 0;
        int[] d = new int[s.n * s.n];
        for (long m = 0; m < matrices; m++) {
            long rest = m;
            for (int x = 0; x < d.length; x++) {
                d[x] = (int) (rest % s.p);
                rest /= s.p;
            }
            if (derives(d)) {
                found++;
            }
        }
        int dim = 0;
        while (found > 1) {
            found /= s.p;
            dim++;
        }
        return dim;
    }

    // ---- the state

    private void remember() {
        saved.addLast(s.copy());
        if (saved.size() > 6) {
            saved.removeFirst();
        }
    }

    /** Takes the rows of f for the new basis; coordinates are found by writing out all vectors. */
    private void rebase(int[][] f) {
        int[] inNew = new int[count()];
        for (int y = 0; y < inNew.length; y++) {
            int[] coordinates = vec(y);
            int[] x = new int[s.n];
            for (int k = 0; k < s.n; k++) {
                for (int m = 0; m < s.n; m++) {
                    x[m] = (x[m] + coordinates[k] * f[k][m]) % s.p;
                }
            }
            inNew[num(x)] = y;
        }
        State next = new State(s.p, s.n);
        for (int i = 0; i < s.n; i++) {
            for (int j = 0; j < s.n; j++) {
                next.c[i][j] = vec(inNew[num(br(f[i], f[j]))]);
            }
        }
        s = next;
    }

    private int[][] oldBasis() {
        int[][] f = new int[s.n][];
        for (int k = 0; k < s.n; k++) {
            f[k] = unit(k);
        }
        return f;
    }

    // ---- the text, read with a state for each place in an item

    private static final int START = 0;
    private static final int FIRST = 1;
    private static final int COMMA = 2;
    private static final int SECOND = 3;
    private static final int CLOSE = 4;
    private static final int EQUALS = 5;
    private static final int VALUE = 6;
    private static final int ZERO = 7;
    private static final int TERM = 8;
    private static final int LETTER = 9;
    private static final int NUMBER = 10;
    private static final int AFTER = 11;

    private int readInto(State target) {
        int state = START;
        int items = 0;
        int i = 0;
        int j = 0;
        int sign = 1;
        int factor = 1;
        int[] value = new int[s.n];
        boolean[][] given = new boolean[s.n][s.n];
        for (int at = 0; at < text.length(); at++) {
            char ch = text.charAt(at);
            if (ch == ' ') {
                continue;
            }
            int digit = ch >= '0' && ch <= '9' ? ch - '0' : 99;
            boolean good;
            int then;
            switch (state) {
                case START:
                    good = ch == '[';
                    then = FIRST;
                    break;
                case FIRST:
                    good = digit < s.n;
                    i = digit;
                    then = COMMA;
                    break;
                case COMMA:
                    good = ch == ',';
                    then = SECOND;
                    break;
                case SECOND:
                    good = digit < s.n && digit != i && !given[i][digit];
                    j = digit;
                    then = CLOSE;
                    break;
                case CLOSE:
                    good = ch == ']';
                    then = EQUALS;
                    break;
                case EQUALS:
                    good = ch == '=';
                    value = new int[s.n];
                    sign = 1;
                    factor = 1;
                    then = VALUE;
                    break;
                case VALUE:
                case TERM:
                    good = ch == 'e' || digit >= 1 && digit < s.p;
                    then = ch == 'e' ? NUMBER : LETTER;
                    factor = ch == 'e' ? 1 : digit;
                    if (state == VALUE && ch == '0') {
                        good = true;
                        then = ZERO;
                    }
                    if (state == VALUE && ch == '-') {
                        good = true;
                        sign = -1;
                        then = TERM;
                    }
                    break;
                case LETTER:
                    good = ch == 'e';
                    then = NUMBER;
                    break;
                case NUMBER:
                    good = digit < s.n;
                    if (good) {
                        value[digit] = Math.floorMod(value[digit] + sign * factor, s.p);
                    }
                    then = AFTER;
                    break;
                default:
                    good = ch == ';' || state == AFTER && (ch == '+' || ch == '-');
                    sign = ch == '-' ? -1 : 1;
                    then = ch == ';' ? START : TERM;
                    break;
            }
            if (!good) {
                return -10 - at;
            }
            if (then == START) {
                target.set(i, j, value);
                given[i][j] = true;
                given[j][i] = true;
                items++;
            }
            state = then;
        }
        return state == START && items > 0 ? items : -10 - text.length();
    }

    // ---- the public face again

    int configure(int p, int n) {
        if (p != 2 && p != 3 && p != 5 && p != 7 || n < 1 || n > 5) {
            return -1;
        }
        remember();
        s = new State(p, n);
        return count();
    }

    int setBracket(int i, int j, int value) {
        if (!index(i) || !index(j) || i == j || !vector(value)) {
            return -1;
        }
        int previous = num(s.c[i][j]);
        remember();
        s.set(i, j, vec(value));
        return previous;
    }

    int append(int character) {
        if (character < 0 || character > 255) {
            return -1;
        }
        if (text.length() == 120) {
            return -3;
        }
        text += (char) character;
        return text.length();
    }

    int clearText() {
        int previous = text.length();
        text = "";
        return previous;
    }

    int loadText() {
        State target = s.copy();
        int items = readInto(target);
        if (items >= 0) {
            remember();
            s = target;
            text = "";
        }
        return items;
    }

    int prime() {
        return s.p;
    }

    int dimension() {
        return s.n;
    }

    int bracket(int u, int v) {
        return vector(u) && vector(v) ? num(br(vec(u), vec(v))) : -1;
    }

    int jacobiFailure() {
        for (int i = 0; i < s.n; i++) {
            for (int j = i + 1; j < s.n; j++) {
                for (int k = j + 1; k < s.n; k++) {
                    int[] a = br(unit(i), br(unit(j), unit(k)));
                    int[] b = br(unit(j), br(unit(k), unit(i)));
                    int[] c = br(unit(k), br(unit(i), unit(j)));
                    for (int x = 0; x < s.n; x++) {
                        if ((a[x] + b[x] + c[x]) % s.p != 0) {
                            return 100 * i + 10 * j + k;
                        }
                    }
                }
            }
        }
        return -9;
    }

    int derivedDimension(int level) {
        return level < 0 || level > 9 ? -1 : dim(derived(level));
    }

    int lowerCentralDimension(int level) {
        return level < 0 || level > 9 ? -1 : dim(lower(level));
    }

    int derivedVector(int level, int index) {
        return level < 0 || level > 9 || index < 0 ? -1 : member(derived(level), index);
    }

    int kind() {
        return dim(lower(9)) == 0 ? 2 : dim(derived(9)) == 0 ? 1 : 0;
    }

    int centerDimension() {
        return dim(center());
    }

    int centerVector(int index) {
        return index < 0 ? -1 : member(center(), index);
    }

    int centralizerDimension(int v) {
        if (!vector(v)) {
            return -1;
        }
        boolean[] in = new boolean[count()];
        for (int x = 0; x < in.length; x++) {
            in[x] = num(br(vec(x), vec(v))) == 0;
        }
        return dim(in);
    }

    int idealDimension(int v) {
        return vector(v) ? dim(ideal(v)) : -1;
    }

    int subalgebraDimension(int u, int v) {
        return vector(u) && vector(v) ? dim(subalgebra(u, v)) : -1;
    }

    int subalgebraVector(int u, int v, int index) {
        return vector(u) && vector(v) && index >= 0 ? member(subalgebra(u, v), index) : -1;
    }

    int adjointEntry(int v, int row, int column) {
        return vector(v) && index(row) && index(column) ? ad(vec(v))[row][column] : -1;
    }

    int nilpotencyIndex(int v) {
        if (!vector(v)) {
            return -1;
        }
        int[][] a = ad(vec(v));
        int[][] power = a;
        for (int k = 1; k <= 20; k++) {
            if (isZero(power)) {
                return k;
            }
            power = times(power, a);
        }
        return -9;
    }

    int killing(int u, int v) {
        return vector(u) && vector(v) ? kill(vec(u), vec(v)) : -1;
    }

    int killingRadicalDimension() {
        boolean[] in = new boolean[count()];
        int[][] form = new int[s.n][s.n];
        for (int i = 0; i < s.n; i++) {
            for (int j = 0; j < s.n; j++) {
                form[i][j] = kill(unit(i), unit(j));
            }
        }
        for (int x = 0; x < in.length; x++) {
            int[] v = vec(x);
            in[x] = true;
            for (int j = 0; j < s.n; j++) {
                int sum = 0;
                for (int i = 0; i < s.n; i++) {
                    sum += v[i] * form[i][j];
                }
                in[x] = in[x] && sum % s.p == 0;
            }
        }
        return dim(in);
    }

    int derivationDimension() {
        long matrices = 1;
        for (int k = 0; k < s.n * s.n && matrices <= 20000; k++) {
            matrices *= s.p;
        }
        return matrices <= 20000 ? derivationsBySearch(matrices) : derivationsByRank();
    }

    int addBasis(int i, int j, int c) {
        if (!index(i) || !index(j) || i == j || c < 1 || c >= s.p) {
            return -1;
        }
        remember();
        int[][] f = oldBasis();
        f[i][j] = c;
        rebase(f);
        return num(s.c[i][j]);
    }

    int scaleBasis(int i, int c) {
        if (!index(i) || c < 1 || c >= s.p) {
            return -1;
        }
        remember();
        int[][] f = oldBasis();
        f[i][i] = c;
        rebase(f);
        int pairs = 0;
        for (int a = 0; a < s.n; a++) {
            for (int b = 0; b < s.n; b++) {
                pairs += num(s.c[a][b]) != 0 ? 1 : 0;
            }
        }
        return pairs;
    }

    int swapBasis(int i, int j) {
        if (!index(i) || !index(j) || i == j) {
            return -1;
        }
        remember();
        int[][] f = oldBasis();
        int[] kept = f[i];
        f[i] = f[j];
        f[j] = kept;
        rebase(f);
        return num(s.c[i][j]);
    }

    int undo() {
        if (saved.isEmpty()) {
            return -2;
        }
        s = saved.removeLast();
        return saved.size();
    }

    int save(int slot) {
        if (slot != 0 && slot != 1) {
            return -1;
        }
        slots[slot] = s.copy();
        return s.n;
    }

    int restore(int slot) {
        if (slot != 0 && slot != 1) {
            return -1;
        }
        if (slots[slot] == null) {
            return -2;
        }
        s = slots[slot].copy();
        saved.clear();
        return s.n;
    }
}
