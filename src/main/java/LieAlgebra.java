import java.util.Arrays;

/**
 * A workbench for Lie algebras of dimension 1 to 5 over the fields with 2, 3,
 * 5 or 7 elements. Every method answers a number; the negative ones are the
 * constants below, and loadText() has error positions of its own.
 */
public final class LieAlgebra {
    public static final int INVALID_ARGUMENT = -1;
    public static final int ILLEGAL_STATE = -2;
    public static final int CAPACITY_EXCEEDED = -3;
    public static final int NONE = -9;

    private static final int FIRST_PRIME = 3;
    private static final int FIRST_DIMENSION = 3;
    private static final int MAX_DIMENSION = 5;
    private static final int MAX_LEVEL = 9;
    private static final int MAX_SAVED = 6;
    private static final int MAX_SLOT = 1;
    private static final int MAX_TEXT = 120;
    private static final int MAX_CHARACTER = 255;
    private static final int TEXT_ERROR = -10;

    private final Table table = new Table();
    private final Spaces spaces = new Spaces(table);
    private final Maps maps = new Maps(table);
    private final Change change = new Change(table);
    private final Script script = new Script();
    private final Shelf history = new Shelf(MAX_SAVED);
    private final Shelf snapshots = new Shelf(MAX_SLOT + 1);
    private int savedStates;

    public LieAlgebra() {
        // A Table begins as the document wants it, and a Script begins empty.
    }

    // ---- table

    public int configure(int p, int n) {
        boolean prime = p == 2 || p == 3 || p == 5 || p == 7;
        if (!prime || n < 1 || n > MAX_DIMENSION) {
            return INVALID_ARGUMENT;
        }
        remember();
        table.begin(p, n);
        return table.vectorCount();
    }

    public int setBracket(int i, int j, int value) {
        if (!table.hasPair(i, j) || !table.hasVector(value)) {
            return INVALID_ARGUMENT;
        }
        int previous = table.entry(i, j);
        remember();
        table.setEntry(i, j, value);
        return previous;
    }

    public int append(int character) {
        if (character < 0 || character > MAX_CHARACTER) {
            return INVALID_ARGUMENT;
        }
        return script.add(character) ? script.length : CAPACITY_EXCEEDED;
    }

    public int clearText() {
        int previous = script.length;
        script.length = 0;
        return previous;
    }

    public int loadText() {
        int items = script.read(table);
        if (items < 0) {
            return items;
        }
        remember();
        table.copyFrom(script.draft);
        script.length = 0;
        return items;
    }

    public int prime() {
        return table.p;
    }

    public int dimension() {
        return table.n;
    }

    public int bracket(int u, int v) {
        if (!table.hasVector(u) || !table.hasVector(v)) {
            return INVALID_ARGUMENT;
        }
        return table.product(u, v);
    }

    public int jacobiFailure() {
        for (int i = 0; i < table.n; i++) {
            for (int j = i + 1; j < table.n; j++) {
                for (int k = j + 1; k < table.n; k++) {
                    if (table.jacobiValue(i, j, k) != 0) {
                        return 100 * i + 10 * j + k;
                    }
                }
            }
        }
        return NONE;
    }

    // ---- series and subspaces

    public int derivedDimension(int level) {
        if (level < 0 || level > MAX_LEVEL) {
            return INVALID_ARGUMENT;
        }
        return spaces.derived(level).size;
    }

    public int lowerCentralDimension(int level) {
        if (level < 0 || level > MAX_LEVEL) {
            return INVALID_ARGUMENT;
        }
        return spaces.lowerCentral(level).size;
    }

    public int derivedVector(int level, int index) {
        if (level < 0 || level > MAX_LEVEL || index < 0) {
            return INVALID_ARGUMENT;
        }
        return spaces.derived(level).vector(index);
    }

    public int kind() {
        // Both series descend, so a level that is 0 comes by MAX_LEVEL.
        if (spaces.lowerCentral(MAX_LEVEL).size == 0) {
            return 2;
        }
        return spaces.derived(MAX_LEVEL).size == 0 ? 1 : 0;
    }

    public int centerDimension() {
        return spaces.center().size;
    }

    public int centerVector(int index) {
        if (index < 0) {
            return INVALID_ARGUMENT;
        }
        return spaces.center().vector(index);
    }

    public int centralizerDimension(int v) {
        if (!table.hasVector(v)) {
            return INVALID_ARGUMENT;
        }
        // The centralizer is the kernel of the map whose image is counted.
        return table.n - spaces.bracketsWith(v).size;
    }

    public int idealDimension(int v) {
        if (!table.hasVector(v)) {
            return INVALID_ARGUMENT;
        }
        return spaces.ideal(v).size;
    }

    public int subalgebraDimension(int u, int v) {
        if (!table.hasVector(u) || !table.hasVector(v)) {
            return INVALID_ARGUMENT;
        }
        return spaces.subalgebra(u, v).size;
    }

    public int subalgebraVector(int u, int v, int index) {
        if (!table.hasVector(u) || !table.hasVector(v) || index < 0) {
            return INVALID_ARGUMENT;
        }
        return spaces.subalgebra(u, v).vector(index);
    }

    // ---- adjoint maps

    public int adjointEntry(int v, int row, int column) {
        if (!table.hasVector(v) || !table.hasIndex(row) || !table.hasIndex(column)) {
            return INVALID_ARGUMENT;
        }
        return table.coordinate(table.product(v, table.power(column)), row);
    }

    public int nilpotencyIndex(int v) {
        if (!table.hasVector(v)) {
            return INVALID_ARGUMENT;
        }
        return maps.nilpotency(v);
    }

    public int killing(int u, int v) {
        if (!table.hasVector(u) || !table.hasVector(v)) {
            return INVALID_ARGUMENT;
        }
        return maps.trace(u, v);
    }

    public int killingRadicalDimension() {
        return maps.radicalSize();
    }

    public int derivationDimension() {
        return maps.derivationCount();
    }

    // ---- changes of the basis

    public int addBasis(int i, int j, int c) {
        if (!table.hasPair(i, j) || !table.hasFactor(c)) {
            return INVALID_ARGUMENT;
        }
        remember();
        change.add(i, j, c);
        return table.entry(i, j);
    }

    public int scaleBasis(int i, int c) {
        if (!table.hasIndex(i) || !table.hasFactor(c)) {
            return INVALID_ARGUMENT;
        }
        remember();
        change.scale(i, c);
        return table.pairsWithBracket();
    }

    public int swapBasis(int i, int j) {
        if (!table.hasPair(i, j)) {
            return INVALID_ARGUMENT;
        }
        remember();
        change.exchange(i, j);
        return table.entry(i, j);
    }

    // ---- undo and snapshots

    public int undo() {
        if (savedStates == 0) {
            return ILLEGAL_STATE;
        }
        savedStates--;
        history.fetch(savedStates, table);
        return savedStates;
    }

    public int save(int slot) {
        if (slot < 0 || slot > MAX_SLOT) {
            return INVALID_ARGUMENT;
        }
        snapshots.keep(slot, table);
        return table.n;
    }

    public int restore(int slot) {
        if (slot < 0 || slot > MAX_SLOT) {
            return INVALID_ARGUMENT;
        }
        if (snapshots.isEmpty(slot)) {
            return ILLEGAL_STATE;
        }
        snapshots.fetch(slot, table);
        savedStates = 0;
        return table.n;
    }

    /** Saves the state for undo(), before a call that changes it. */
    private void remember() {
        if (savedStates == MAX_SAVED) {
            history.dropFirst();
            savedStates--;
        }
        history.keep(savedStates, table);
        savedStates++;
    }

    /** The number at an index; 0 outside the array. */
    private static int at(int[] cells, int index) {
        return index >= 0 && index < cells.length ? cells[index] : 0;
    }

    /** Puts a number at an index; outside the array it goes nowhere. */
    private static void put(int[] cells, int index, int x) {
        if (index >= 0 && index < cells.length) {
            cells[index] = x;
        }
    }

    /** The number by which x must be multiplied to give 1 modulo p. */
    private static int inverse(int x, int p) {
        for (int k = 1; k < p; k++) {
            if (k * x % p == 1) {
                return k;
            }
        }
        return 1;
    }

    /**
     * The state: the prime, the dimension, and the bracket of every ordered
     * pair of basis vectors. Vectors are the numbers of the document.
     */
    private static final class Table {
        private int p = FIRST_PRIME;
        private int n = FIRST_DIMENSION;
        private final int[] brackets = new int[MAX_DIMENSION * MAX_DIMENSION];

        void begin(int newPrime, int newDimension) {
            p = newPrime;
            n = newDimension;
            Arrays.fill(brackets, 0);
        }

        void copyFrom(Table other) {
            p = other.p;
            n = other.n;
            System.arraycopy(other.brackets, 0, brackets, 0, brackets.length);
        }

        boolean hasIndex(int i) {
            return i >= 0 && i < n;
        }

        boolean hasPair(int i, int j) {
            return hasIndex(i) && hasIndex(j) && i != j;
        }

        boolean hasVector(int v) {
            return v >= 0 && v < vectorCount();
        }

        boolean hasFactor(int c) {
            return c >= 1 && c < p;
        }

        int vectorCount() {
            return power(n);
        }

        /** The power of p with the exponent i, which is also the vector ei. */
        int power(int i) {
            int result = 1;
            for (int k = 0; k < i && k < MAX_DIMENSION; k++) {
                result *= p;
            }
            return result;
        }

        /** The number of the field that x stands for. */
        int reduce(int x) {
            if (p < 2) {
                return 0;
            }
            int rest = x % p;
            return rest < 0 ? rest + p : rest;
        }

        int coordinate(int v, int i) {
            int unit = power(i);
            return unit > 0 && p > 1 ? v / unit % p : 0;
        }

        /** The vector u + factor * v. */
        int plus(int u, int v, int factor) {
            int f = reduce(factor);
            int result = 0;
            int unit = 1;
            int restOfU = u;
            int restOfV = v;
            for (int k = 0; k < n && p > 1; k++) {
                result += (restOfU % p + f * (restOfV % p)) % p * unit;
                restOfU /= p;
                restOfV /= p;
                unit *= p;
            }
            return result;
        }

        /** The bracket of ei and ej. */
        int entry(int i, int j) {
            return at(brackets, i * MAX_DIMENSION + j);
        }

        void setEntry(int i, int j, int value) {
            put(brackets, i * MAX_DIMENSION + j, value);
            put(brackets, j * MAX_DIMENSION + i, plus(0, value, -1));
        }

        int pairsWithBracket() {
            int pairs = 0;
            for (int i = 0; i < n; i++) {
                for (int j = 0; j < n; j++) {
                    if (entry(i, j) != 0) {
                        pairs++;
                    }
                }
            }
            return pairs;
        }

        /** The bracket [u, v]. */
        int product(int u, int v) {
            int result = 0;
            for (int i = 0; i < n; i++) {
                int ui = coordinate(u, i);
                int vi = coordinate(v, i);
                for (int j = i + 1; j < n && (ui != 0 || vi != 0); j++) {
                    int factor = reduce(ui * coordinate(v, j) - vi * coordinate(u, j));
                    if (factor != 0) {
                        result = plus(result, entry(i, j), factor);
                    }
                }
            }
            return result;
        }

        int jacobiValue(int i, int j, int k) {
            int value = product(power(i), entry(j, k));
            value = plus(value, product(power(j), entry(k, i)), 1);
            return plus(value, product(power(k), entry(i, j)), 1);
        }
    }

    /**
     * A subspace, held as its canonical basis. The basis vector with the
     * leading coordinate c stands in row c, so that nothing needs sorting; a
     * row without a basis vector is 0. One more row, the last, takes the
     * vector that comes in, and is 0 between two of them.
     */
    private static final class Subspace {
        private final int columns;
        private final int[] cells;
        private int p = FIRST_PRIME;
        private int width;
        private int size;

        Subspace(int mostColumns) {
            columns = Math.max(1, Math.min(mostColumns, MAX_DIMENSION * MAX_DIMENSION));
            cells = new int[(columns + 1) * columns];
        }

        /** Makes this the subspace 0 of a space of the given dimension. */
        void begin(int prime, int dimension) {
            p = prime;
            width = Math.max(0, Math.min(dimension, columns));
            size = 0;
            Arrays.fill(cells, 0);
        }

        private int cell(int row, int column) {
            int index = row * columns + column;
            return index >= 0 && index < cells.length ? cells[index] : 0;
        }

        // Does not ask cell(): it stands at the end of the longest chain of calls.
        private boolean hasLead(int column) {
            int index = column * columns + column;
            return index >= 0 && index < cells.length && cells[index] != 0;
        }

        /** Adds x to a coordinate of the vector that comes in. */
        void addIncoming(int column, int x) {
            int index = columns * columns + column;
            if (column >= 0 && column < width && index < cells.length && p > 1) {
                cells[index] = Math.floorMod(cells[index] + x, p);
            }
        }

        /** Adds the incoming vector to what spans the subspace; tells whether that grows. */
        boolean takeIncoming() {
            int in = columns;
            for (int c = 0; c < width; c++) {
                if (hasLead(c)) {
                    addRow(in, c, p - cell(in, c));
                }
            }
            int lead = 0;
            while (lead < width && cell(in, lead) == 0) {
                lead++;
            }
            if (lead == width) {
                return false;
            }
            addRow(in, in, inverse(cell(in, lead), p) - 1);
            for (int r = 0; r < lead; r++) {
                addRow(r, in, p - cell(r, lead));
            }
            addRow(lead, in, 1);
            addRow(in, in, p - 1);
            size++;
            return true;
        }

        /** Adds a multiple of one row to another, or to itself; the factor is 0 or more. */
        private void addRow(int to, int from, int factor) {
            if (p < 2 || to < 0 || to > columns || from < 0 || from > columns) {
                return;
            }
            int f = factor % p;
            if (f == 0) {
                return;
            }
            int target = to * columns;
            int source = from * columns;
            for (int c = 0; c < width; c++) {
                cells[target + c] = (cells[target + c] + f * cells[source + c]) % p;
            }
        }

        /** Adds a vector of the table to what spans the subspace; tells whether that grows. */
        boolean join(Table table, int v) {
            for (int c = 0; c < width; c++) {
                addIncoming(c, table.coordinate(v, c));
            }
            return takeIncoming();
        }

        /** A vector of the canonical basis; NONE if there is none of that index. */
        int vector(int index) {
            int before = 0;
            for (int r = 0; r < width; r++) {
                if (hasLead(r)) {
                    if (before == index) {
                        return rowAsVector(r);
                    }
                    before++;
                }
            }
            return NONE;
        }

        private int rowAsVector(int row) {
            int v = 0;
            int unit = 1;
            for (int c = 0; c < width; c++) {
                v += cell(row, c) * unit;
                unit *= p;
            }
            return v;
        }

        /** Puts into another subspace all x whose product with every vector of this one is 0. */
        void solveInto(Subspace solutions) {
            solutions.begin(p, width);
            for (int free = 0; free < width; free++) {
                if (!hasLead(free)) {
                    for (int r = 0; r < width; r++) {
                        solutions.addIncoming(r, r == free ? 1 : -cell(r, free));
                    }
                    solutions.takeIncoming();
                }
            }
        }
    }

    /** The subspaces that belong to a table; each answer holds until the next question. */
    private static final class Spaces {
        private final Table table;
        private final Subspace whole = new Subspace(MAX_DIMENSION);
        private final Subspace first = new Subspace(MAX_DIMENSION);
        private final Subspace second = new Subspace(MAX_DIMENSION);

        Spaces(Table table) {
            this.table = table;
        }

        Subspace derived(int level) {
            return descend(level, false);
        }

        Subspace lowerCentral(int level) {
            return descend(level, true);
        }

        private Subspace descend(int level, boolean byWhole) {
            fill(whole);
            fill(first);
            Subspace present = first;
            Subspace next = second;
            boolean falls = true;
            // Each level lies in the one before, so one of the same size is the same.
            for (int k = 0; k < level && falls; k++) {
                next.begin(table.p, table.n);
                addProducts(byWhole ? whole : present, present, next);
                falls = next.size < present.size;
                Subspace spare = present;
                present = next;
                next = spare;
            }
            return present;
        }

        private void fill(Subspace space) {
            space.begin(table.p, table.n);
            for (int i = 0; i < table.n; i++) {
                space.join(table, table.power(i));
            }
        }

        /** Adds the product of two subspaces to a third; tells whether that grows. */
        private boolean addProducts(Subspace left, Subspace right, Subspace sum) {
            boolean grows = false;
            int lefts = left.size;
            int rights = right.size;
            for (int a = 0; a < lefts; a++) {
                for (int b = 0; b < rights; b++) {
                    int v = table.product(left.vector(a), right.vector(b));
                    grows = sum.join(table, v) || grows;
                }
            }
            return grows;
        }

        Subspace center() {
            first.begin(table.p, table.n);
            for (int j = 0; j < table.n; j++) {
                for (int row = 0; row < table.n; row++) {
                    for (int i = 0; i < table.n; i++) {
                        first.addIncoming(i, table.coordinate(table.entry(i, j), row));
                    }
                    first.takeIncoming();
                }
            }
            first.solveInto(second);
            return second;
        }

        /** The subspace of all [x, v]. */
        Subspace bracketsWith(int v) {
            first.begin(table.p, table.n);
            for (int i = 0; i < table.n; i++) {
                first.join(table, table.product(table.power(i), v));
            }
            return first;
        }

        Subspace ideal(int v) {
            fill(whole);
            first.begin(table.p, table.n);
            first.join(table, v);
            close(whole, first);
            return first;
        }

        Subspace subalgebra(int u, int v) {
            first.begin(table.p, table.n);
            first.join(table, u);
            first.join(table, v);
            close(first, first);
            return first;
        }

        /** Adds to a subspace its products with the left one until nothing is new. */
        private void close(Subspace left, Subspace space) {
            boolean grows = true;
            for (int round = 0; round <= table.n && grows; round++) {
                grows = addProducts(left, space, space);
            }
        }
    }

    /** What is asked about the linear maps that belong to a table. */
    private static final class Maps {
        private final Table table;
        private final Subspace rows = new Subspace(MAX_DIMENSION);
        private final Subspace equations = new Subspace(MAX_DIMENSION * MAX_DIMENSION);

        Maps(Table table) {
            this.table = table;
        }

        int nilpotency(int v) {
            int index = 1;
            for (int j = 0; j < table.n; j++) {
                int image = table.power(j);
                int steps = 0;
                // A power that is not 0 by the exponent n is 0 nowhere later.
                while (steps < table.n && image != 0) {
                    image = table.product(v, image);
                    steps++;
                }
                if (image != 0) {
                    return NONE;
                }
                index = Math.max(index, steps);
            }
            return index;
        }

        /** The trace of the product of two adjoint matrices. */
        int trace(int u, int v) {
            int sum = 0;
            for (int j = 0; j < table.n; j++) {
                int image = table.product(u, table.product(v, table.power(j)));
                sum += table.coordinate(image, j);
            }
            return table.reduce(sum);
        }

        int radicalSize() {
            rows.begin(table.p, table.n);
            for (int i = 0; i < table.n; i++) {
                for (int j = 0; j < table.n; j++) {
                    rows.addIncoming(j, trace(table.power(i), table.power(j)));
                }
                rows.takeIncoming();
            }
            return table.n - rows.size;
        }

        /** The unknowns are the entries of the matrix of D, and i less than j is enough. */
        int derivationCount() {
            equations.begin(table.p, table.n * table.n);
            for (int i = 0; i < table.n; i++) {
                for (int j = i + 1; j < table.n; j++) {
                    for (int row = 0; row < table.n; row++) {
                        addDerivationRule(i, j, row);
                    }
                }
            }
            return table.n * table.n - equations.size;
        }

        /** One coordinate of D([ei, ej]) - [D(ei), ej] - [ei, D(ej)] = 0. */
        private void addDerivationRule(int i, int j, int row) {
            for (int a = 0; a < table.n; a++) {
                equations.addIncoming(unknown(row, a), table.coordinate(table.entry(i, j), a));
                equations.addIncoming(unknown(a, i), -table.coordinate(table.entry(a, j), row));
                equations.addIncoming(unknown(a, j), -table.coordinate(table.entry(i, a), row));
            }
            equations.takeIncoming();
        }

        private int unknown(int row, int column) {
            return row * table.n + column;
        }
    }

    /** A change of the basis: the new basis vectors, and the old ones written with the new. */
    private static final class Change {
        private final Table table;
        private final Table draft = new Table();
        private final int[] newOnes = new int[MAX_DIMENSION];
        private final int[] oldOnes = new int[MAX_DIMENSION];

        Change(Table table) {
            this.table = table;
        }

        void add(int i, int j, int c) {
            begin();
            put(newOnes, i, table.plus(table.power(i), table.power(j), c));
            put(oldOnes, i, table.plus(table.power(i), table.power(j), -c));
            apply();
        }

        void scale(int i, int c) {
            begin();
            put(newOnes, i, c * table.power(i));
            put(oldOnes, i, inverse(c, table.p) * table.power(i));
            apply();
        }

        void exchange(int i, int j) {
            begin();
            put(newOnes, i, table.power(j));
            put(newOnes, j, table.power(i));
            put(oldOnes, i, table.power(j));
            put(oldOnes, j, table.power(i));
            apply();
        }

        private void begin() {
            for (int k = 0; k < table.n; k++) {
                put(newOnes, k, table.power(k));
                put(oldOnes, k, table.power(k));
            }
        }

        private void apply() {
            draft.begin(table.p, table.n);
            for (int i = 0; i < table.n; i++) {
                for (int j = i + 1; j < table.n; j++) {
                    int value = table.product(at(newOnes, i), at(newOnes, j));
                    draft.setEntry(i, j, rewrite(value));
                }
            }
            table.copyFrom(draft);
        }

        /** A vector of the old basis, written with the new one. */
        private int rewrite(int v) {
            int result = 0;
            for (int k = 0; k < table.n; k++) {
                result = table.plus(result, at(oldOnes, k), table.coordinate(v, k));
            }
            return result;
        }
    }

    /** The text, and how it is read. */
    private static final class Script {
        private static final int END = -1;

        private final int[] characters = new int[MAX_TEXT];
        private final Table draft = new Table();
        private int length;
        private int position;
        private int pairsGiven;

        boolean add(int character) {
            if (length >= MAX_TEXT) {
                return false;
            }
            put(characters, length, character);
            length++;
            return true;
        }

        /**
         * Reads the text into the draft, a copy of the table. Answers the
         * number of items, or -10 minus the error position: whoever does not
         * find what is allowed stops with the position on that character.
         */
        int read(Table table) {
            draft.copyFrom(table);
            position = 0;
            pairsGiven = 0;
            int items = 0;
            do {
                if (!readItem()) {
                    return TEXT_ERROR - position;
                }
                items++;
            } while (items < MAX_TEXT && next() != END);
            return items;
        }

        private boolean readItem() {
            if (!take('[')) {
                return false;
            }
            int i = takeDigit(0, draft.n - 1);
            if (i < 0 || !take(',')) {
                return false;
            }
            int j = next() - '0';
            if (!draft.hasPair(i, j) || (pairsGiven & pairBit(i, j)) != 0) {
                return false;
            }
            position++;
            pairsGiven |= pairBit(i, j);
            if (!take(']') || !take('=')) {
                return false;
            }
            int value = readValue();
            if (value < 0) {
                return false;
            }
            draft.setEntry(i, j, value);
            return true;
        }

        private static int pairBit(int i, int j) {
            return 1 << (Math.min(i, j) * MAX_DIMENSION + Math.max(i, j));
        }

        /** The value and the ";" behind it; -1 if they are not there. */
        private int readValue() {
            if (take('0')) {
                return take(';') ? 0 : -1;
            }
            int sign = take('-') ? -1 : 1;
            int value = 0;
            for (int terms = 0; terms < MAX_TEXT; terms++) {
                int factor = takeDigit(1, draft.p - 1);
                int i = take('e') ? takeDigit(0, draft.n - 1) : -1;
                if (i < 0) {
                    return -1;
                }
                value = draft.plus(value, draft.power(i), factor < 0 ? sign : sign * factor);
                if (take(';')) {
                    return value;
                }
                sign = take('-') ? -1 : 1;
                if (sign > 0 && !take('+')) {
                    return -1;
                }
            }
            return -1;
        }

        /** Goes over spaces; the character that stands there, or END. */
        private int next() {
            while (position < length && at(characters, position) == ' ') {
                position++;
            }
            return position < length ? at(characters, position) : END;
        }

        private boolean take(int wanted) {
            if (next() != wanted) {
                return false;
            }
            position++;
            return true;
        }

        /** A digit between two bounds, or -1. */
        private int takeDigit(int least, int most) {
            int digit = next() - '0';
            if (digit < least || digit > most) {
                return -1;
            }
            position++;
            return digit;
        }
    }

    /** Copies of tables, in places that are empty at first. */
    private static final class Shelf {
        private static final int BRACKETS = MAX_DIMENSION * MAX_DIMENSION;
        private static final int SIZE = BRACKETS + 2;

        private final int places;
        private final int[] cells;

        Shelf(int wantedPlaces) {
            places = Math.max(1, Math.min(wantedPlaces, MAX_SAVED));
            cells = new int[places * SIZE];
        }

        boolean isEmpty(int place) {
            return at(cells, place * SIZE) == 0;
        }

        void keep(int place, Table table) {
            if (place < 0 || place >= places) {
                return;
            }
            int start = place * SIZE;
            cells[start] = table.p;
            cells[start + 1] = table.n;
            System.arraycopy(table.brackets, 0, cells, start + 2, BRACKETS);
        }

        void fetch(int place, Table table) {
            if (place < 0 || place >= places) {
                return;
            }
            int start = place * SIZE;
            table.p = cells[start];
            table.n = cells[start + 1];
            System.arraycopy(cells, start + 2, table.brackets, 0, BRACKETS);
        }

        /** Moves every copy one place to the front; the first one is lost. */
        void dropFirst() {
            System.arraycopy(cells, SIZE, cells, 0, cells.length - SIZE);
        }
    }
}
