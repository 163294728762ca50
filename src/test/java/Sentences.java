import java.io.IOException;
import java.nio.file.Files;
import java.nio.file.Path;
import java.util.ArrayList;
import java.util.List;
import java.util.function.Supplier;

/**
 * The sentences of the document that tests stand for. Each is quoted with the
 * number of its promise, must stand in the document, and must be asked about;
 * every wrong answer is told with them.
 */
final class Sentences {
    static final int BAD = LieAlgebra.INVALID_ARGUMENT;
    static final int STATE = LieAlgebra.ILLEGAL_STATE;
    static final int FULL = LieAlgebra.CAPACITY_EXCEEDED;
    static final int NONE = LieAlgebra.NONE;
    static final int LEAST = Integer.MIN_VALUE;
    static final int MOST = Integer.MAX_VALUE;
    static final int[] PRIMES = {2, 3, 5, 7};

    /** Out of range for everything that has a bound; some look small when bits are cut off. */
    private static final int[] FAR = {LEAST, LEAST + 1, -65536, -256, 65536, 65537, 1 << 24, MOST - 1, MOST};
    private static final int PROMISES = 31;

    private final Check check = new Check();
    private final String document;
    private final List<List<String>> quotes = new ArrayList<>();
    private String said = "";
    private int asked = 1;

    Sentences() throws IOException {
        document = Files.readString(Path.of("../shared/DOC.md"));
        for (int promise = 0; promise <= PROMISES; promise++) {
            quotes.add(new ArrayList<>());
        }
    }

    /** What follows is asked about these words of the document. */
    void says(int promise, String words) {
        check.dueTrue(said + " is asked about", asked > 0);
        said = "promise " + promise + ", \"" + words + "\"";
        asked = 0;
        quotes.get(promise).add(words);
        check.dueTrue(said + " stands in the document", document.contains(words));
    }

    void due(String call, int got, int want) {
        asked++;
        check.due(got == want ? "" : said + ": " + call, got, want);
    }

    void holds(String what, boolean truth) {
        due(what, truth ? 1 : 0, 1);
    }

    /** The arguments of these promises and all that they return must have been quoted. */
    void covers(int first, int last) {
        for (int promise = first; promise <= last; promise++) {
            for (String line : section(promise).split("\n")) {
                if (line.startsWith("- `") || line.startsWith("Returns ")) {
                    for (String clause : line.split("; ")) {
                        check.dueTrue("promise " + promise + " has a test of \"" + clause + "\"",
                                isQuoted(promise, clause));
                    }
                }
            }
        }
    }

    void end() {
        check.dueTrue(said + " is asked about", asked > 0);
        check.end();
    }

    private String section(int promise) {
        int start = document.indexOf("## Promise " + promise + ":");
        if (start < 0) {
            return "Returns nothing that the document tells";
        }
        int end = document.indexOf("\n## ", start);
        return document.substring(start, end < 0 ? document.length() : end);
    }

    private boolean isQuoted(int promise, String clause) {
        for (String words : quotes.get(promise)) {
            if (clause.contains(words) || words.contains(clause)) {
                return true;
            }
        }
        return false;
    }

    // ---- calls that are refused

    interface Call {
        int on(LieAlgebra x);
    }

    interface CallWithOne {
        int on(LieAlgebra x, int argument);
    }

    interface CallWithTwo {
        int on(LieAlgebra x, int first, int second);
    }

    /** An error code or NONE is due, and nothing may have changed: in a new table and in a full object. */
    void refuses(String call, int p, int n, int answer, Call asking) {
        String told = "(" + p + ", " + n + ") " + call;
        changesNothing(told, Tables.abelian(p, n), Tables.abelian(p, n), answer, asking);
        changesNothing(told, full(p, n), full(p, n), answer, asking);
    }

    /** The twin was made by the same calls, and is not asked. */
    void changesNothing(String call, LieAlgebra x, LieAlgebra twin, int answer, Call asking) {
        due(call, asking.on(x), answer);
        holds(call + " changes nothing", everything(x).equals(everything(twin)));
    }

    /** Six saved states, both slots in use, and 120 characters that have an error. */
    static LieAlgebra full(int p, int n) {
        LieAlgebra x = new LieAlgebra();
        for (int k = 1; k <= 5; k++) {
            x.configure(PRIMES[k % 4], k);
        }
        x.setBracket(0, 4, 77);
        x.save(0);
        int count = x.configure(p, n);
        for (int i = 0; i < n; i++) {
            for (int j = i + 1; j < n; j++) {
                x.setBracket(i, j, (7 * i + 11 * j + 5) % count);
            }
        }
        x.save(1);
        Tables.write(x, "[0,1]=e0;[1,0");
        while (x.append('7') < 120) {
            continue;
        }
        return x;
    }

    /** All that the calls tell of an object: it is not as it was afterwards. */
    static String everything(LieAlgebra x) {
        StringBuilder told = new StringBuilder(state(x));
        told.append(" text ").append(x.loadText()).append(' ').append(x.clearText());
        for (int k = 0; k < 7; k++) {
            told.append(" undo ").append(x.undo()).append(state(x));
        }
        for (int slot = 0; slot < 2; slot++) {
            told.append(" slot ").append(x.restore(slot)).append(state(x));
        }
        return told.toString();
    }

    /** p, n and the brackets. */
    static String state(LieAlgebra x) {
        int n = x.dimension();
        int p = x.prime();
        StringBuilder told = new StringBuilder();
        told.append(" p ").append(p).append(" n ").append(n);
        for (int i = 0; i < n; i++) {
            for (int j = 0; j < n; j++) {
                told.append(' ').append(x.bracket(unit(p, i), unit(p, j)));
            }
        }
        return told.toString();
    }

    /** The power of p with the exponent i: the vector ei, or the number of vectors. */
    static int unit(int p, int i) {
        int result = 1;
        for (int k = 0; k < i; k++) {
            result *= p;
        }
        return result;
    }

    // ---- arguments and their bounds

    /** The argument is a vector: 0 to p^n - 1. */
    void takesVectors(String call, int leastDimension, CallWithOne asking) {
        for (int p : PRIMES) {
            for (int n = leastDimension; n <= 5; n++) {
                int count = unit(p, n);
                takesOnly(call, p, n, 0, count - 1, asking);
            }
        }
    }

    /** The argument is the index of a basis vector, a row or a column: 0 to n - 1. */
    void takesIndices(String call, int leastDimension, CallWithOne asking) {
        for (int p : PRIMES) {
            for (int n = leastDimension; n <= 5; n++) {
                takesOnly(call, p, n, 0, n - 1, asking);
            }
        }
    }

    /** The argument is 1 to p - 1. */
    void takesFactors(String call, int leastDimension, CallWithOne asking) {
        for (int p : PRIMES) {
            for (int n = leastDimension; n <= 5; n++) {
                takesOnly(call, p, n, 1, p - 1, asking);
            }
        }
    }

    /** The argument is out of range just below one bound and just above the other, and far away. */
    void takesOnly(String call, int p, int n, int least, int most, CallWithOne asking) {
        for (int good : new int[] {least, Math.min(least + 1, most), (least + most) / 2, most}) {
            accepts(call + ", " + good, p, n, x -> asking.on(x, good));
        }
        for (int bad : new int[] {least - 2, least - 1, most + 1, most + 2}) {
            refuses(call + ", " + bad, p, n, BAD, x -> asking.on(x, bad));
        }
        for (int bad : FAR) {
            if (bad < least || bad > most) {
                refuses(call + ", " + bad, p, n, BAD, x -> asking.on(x, bad));
            }
        }
    }

    /** The arguments are the indices of two different basis vectors. */
    void takesPairs(String call, CallWithTwo asking) {
        int[] indices = {LEAST, -65536, -2, -1, 0, 1, 2, 3, 4, 5, 6, 65536, MOST};
        for (int n = 1; n <= 5; n++) {
            for (int i : indices) {
                for (int j : indices) {
                    takesPair(call + ", " + i + ", " + j, n, i, j, asking);
                }
            }
        }
    }

    private void takesPair(String call, int n, int i, int j, CallWithTwo asking) {
        if (i >= 0 && i < n && j >= 0 && j < n && i != j) {
            accepts(call, 7, n, x -> asking.on(x, i, j));
            accepts(call, 2, n, x -> asking.on(x, i, j));
        } else {
            refuses(call, 7, n, BAD, x -> asking.on(x, i, j));
        }
    }

    private void accepts(String call, int p, int n, Call asking) {
        int answer = asking.on(full(p, n));
        holds("(" + p + ", " + n + ") " + call + " is not refused, but answered " + answer,
                answer >= 0 || answer == NONE);
    }

    /** The argument is the number of a vector: a negative one is refused, and past the end there is NONE. */
    void takesNumbers(String call, Supplier<LieAlgebra> table, int[] basis, CallWithOne asking) {
        for (int number = 0; number < basis.length; number++) {
            due(call + ", " + number, asking.on(table.get(), number), basis[number]);
        }
        for (int number : new int[] {basis.length, basis.length + 1, 6, 256, 65536, MOST - 1, MOST}) {
            changesNothing(call + ", " + number, table.get(), table.get(), NONE, x -> asking.on(x, number));
        }
        for (int number : new int[] {-1, -2, -9, -65536, LEAST + 1, LEAST}) {
            changesNothing(call + ", " + number, table.get(), table.get(), BAD, x -> asking.on(x, number));
        }
    }
}
