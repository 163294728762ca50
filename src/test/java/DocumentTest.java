import java.io.IOException;
import java.lang.reflect.Constructor;
import java.lang.reflect.Field;
import java.lang.reflect.Method;
import java.lang.reflect.Modifier;
import java.nio.file.Files;
import java.nio.file.Path;
import java.util.Set;
import java.util.TreeSet;
import java.util.regex.Matcher;
import java.util.regex.Pattern;

/** The face, the constants and the examples, read from the document itself and not copied from it. */
public final class DocumentTest {
    private static final int PROMISES = 31;
    private static final int EXAMPLES = 5;

    private final Check check = new Check();
    private final String document;

    private DocumentTest() throws IOException {
        document = Files.readString(Path.of("../shared/DOC.md"));
    }

    public static void main(String[] args) throws IOException {
        DocumentTest t = new DocumentTest();
        t.face();
        t.constants();
        t.promises();
        t.examples();
        t.check.end();
    }

    private String between(String start, String end) {
        int from = document.indexOf(start);
        int to = document.indexOf(end, from + start.length());
        check.dueTrue("the document has " + start, from >= 0 && to > from);
        return from >= 0 && to > from ? document.substring(from + start.length(), to) : "";
    }

    private void sameText(String what, Object got, Object want) {
        check.dueTrue(what + " is " + want + ", but the class has " + got, got.toString().equals(want.toString()));
    }

    /** What the class shows is what "The public face" lists, and no more. */
    private void face() {
        Set<String> wanted = new TreeSet<>();
        for (String line : between("```java\n", "```").split("\n")) {
            wanted.add(withoutNames(line.strip()));
        }
        wanted.remove("}");
        Set<String> shown = new TreeSet<>();
        shown.add(Modifier.toString(LieAlgebra.class.getModifiers()) + " class LieAlgebra {");
        for (Constructor<?> c : LieAlgebra.class.getDeclaredConstructors()) {
            shown.add(Modifier.toString(c.getModifiers()) + " LieAlgebra" + types(c.getParameterTypes()) + ";");
        }
        for (Method m : LieAlgebra.class.getDeclaredMethods()) {
            if (!Modifier.isPrivate(m.getModifiers())) {
                shown.add(Modifier.toString(m.getModifiers()) + " " + m.getReturnType() + " " + m.getName()
                        + types(m.getParameterTypes()) + ";");
            }
        }
        for (Field f : LieAlgebra.class.getDeclaredFields()) {
            if (!Modifier.isPrivate(f.getModifiers())) {
                shown.add(Modifier.toString(f.getModifiers()) + " " + f.getType() + " " + f.getName() + " = "
                        + valueOf(f.getName()) + ";");
            }
        }
        sameText("the face", shown, wanted);
    }

    /** "public int bracket(int u, int v);" becomes "public int bracket(int, int);". */
    private static String withoutNames(String line) {
        return line.replaceAll("int \\w+([,)])", "int$1");
    }

    private static String types(Class<?>[] types) {
        StringBuilder told = new StringBuilder("(");
        for (Class<?> type : types) {
            told.append(told.length() > 1 ? ", " : "").append(type);
        }
        return told.append(")").toString();
    }

    private static int valueOf(String constant) {
        try {
            return LieAlgebra.class.getField(constant).getInt(null);
        } catch (NoSuchFieldException | IllegalAccessException e) {
            throw new IllegalStateException(constant, e);
        }
    }

    private void constants() {
        Matcher lines = Pattern.compile("(?m)^- `([A-Z_]+) = (-?\\d+)`").matcher(document);
        int found = 0;
        while (lines.find()) {
            found++;
            check.due(lines.group(1), valueOf(lines.group(1)), Integer.parseInt(lines.group(2)));
        }
        check.due("constants that the document lists", found, 4);
    }

    /** Each promise but that of the constructor begins with the signature of a public method. */
    private void promises() {
        Matcher heads = Pattern.compile("## Promise (\\d+): [^\n]*\n\n`int (\\w+)\\(([^)]*)\\)`").matcher(document);
        Set<String> promised = new TreeSet<>();
        while (heads.find()) {
            promised.add(heads.group(2) + withoutNames("(" + heads.group(3) + ")"));
        }
        check.due("promises of methods", promised.size(), PROMISES - 1);
        Set<String> shown = new TreeSet<>();
        for (Method m : LieAlgebra.class.getDeclaredMethods()) {
            if (Modifier.isPublic(m.getModifiers())) {
                shown.add(m.getName() + types(m.getParameterTypes()));
            }
        }
        sameText("the list of promised methods", shown, promised);
    }

    /** Each example is a line: "call = result; call = result." on a new object. */
    private void examples() {
        Matcher lines = Pattern.compile("(?m)^(\\d)\\. [^\n]*: (\\w+\\([^\n]*)\\.$").matcher(document);
        int found = 0;
        while (lines.find()) {
            found++;
            LieAlgebra x = new LieAlgebra();
            for (String pair : lines.group(2).split("; ")) {
                String[] sides = pair.split(" = ");
                check.due("sides of " + pair, sides.length, 2);
                check.due("example " + lines.group(1) + ": " + sides[0], Calls.make(x, sides[0]),
                        Integer.parseInt(sides[1]));
            }
        }
        check.due("examples", found, EXAMPLES);
    }
}
