import java.io.IOException;
import java.lang.management.ManagementFactory;
import java.lang.reflect.Constructor;
import java.lang.reflect.Field;
import java.lang.reflect.Method;
import java.lang.reflect.Modifier;
import java.nio.file.Files;
import java.nio.file.Path;
import java.util.Set;
import java.util.TreeSet;
import java.util.regex.Matcher;
import java.util.regex.Pattern;

/** The face of the class, what LANGUAGE.md rules out, and the room that calls take. */
public final class RulesTest {
    private static final String FACE = "addBasis/3 adjointEntry/3 append/1 bracket/2 centerDimension/0 centerVector/1"
            + " centralizerDimension/1 clearText/0 configure/2 derivationDimension/0 derivedDimension/1"
            + " derivedVector/2 dimension/0 idealDimension/1 jacobiFailure/0 killing/2 killingRadicalDimension/0 kind/0"
            + " loadText/0 lowerCentralDimension/1 nilpotencyIndex/1 prime/0 restore/1 save/1 scaleBasis/2"
            + " setBracket/3 subalgebraDimension/2 subalgebraVector/3 swapBasis/2 undo/0";
    private static final String[] RULED_OUT = {
        "\\bthrow\\b", "\\bthrows\\b", "\\btry\\b", "\\bcatch\\b", "\\bfinally\\b", "\\bsynchronized\\b",
        "\\bassert\\b", "->", "::", "\\bObject\\b", "\\bpackage\\b", "\\bnull\\b", "\\bequals\\b", "\\bhashCode\\b",
        "\\btoString\\b", "Exact\\b", "\\bThread\\b", "\\bRandom\\b", "nanoTime", "currentTimeMillis", "\"", "@",
        "\\bprotected\\b", "\\bnative\\b", "\\btransient\\b", "\\bvolatile\\b", "\\bdouble\\b", "\\bfloat\\b"};
    private static final int MOST_LINES = 60;

    private final Check check = new Check();

    public static void main(String[] args) throws IOException {
        RulesTest t = new RulesTest();
        t.face();
        String source = Files.readString(Path.of("src/main/java/LieAlgebra.java"));
        t.words(withoutComments(source));
        t.methods(withoutComments(source));
        t.room();
        t.check.end();
    }

    private void face() {
        Class<?> face = LieAlgebra.class;
        check.dueTrue("public and final", Modifier.isPublic(face.getModifiers()) && Modifier.isFinal(face.getModifiers()));
        Set<String> methods = new TreeSet<>();
        for (Method m : face.getDeclaredMethods()) {
            if (Modifier.isPrivate(m.getModifiers())) {
                continue;
            }
            methods.add(m.getName() + "/" + m.getParameterCount());
            check.dueTrue(m + " is public, of the object and int",
                    Modifier.isPublic(m.getModifiers()) && !Modifier.isStatic(m.getModifiers())
                            && m.getReturnType() == int.class);
            for (Class<?> type : m.getParameterTypes()) {
                check.dueTrue(m + " takes int", type == int.class);
            }
        }
        check.dueTrue("the methods are " + methods, String.join(" ", methods).equals(FACE));
        Set<String> constants = new TreeSet<>();
        for (Field f : face.getDeclaredFields()) {
            if (!Modifier.isPrivate(f.getModifiers())) {
                constants.add(f.getName());
                check.dueTrue(f + " is a public constant", Modifier.isPublic(f.getModifiers())
                        && Modifier.isStatic(f.getModifiers()) && Modifier.isFinal(f.getModifiers()));
            }
        }
        check.dueTrue("the constants are " + constants, String.join(" ", constants)
                .equals("CAPACITY_EXCEEDED ILLEGAL_STATE INVALID_ARGUMENT NONE"));
        Constructor<?>[] constructors = face.getDeclaredConstructors();
        check.due("constructors", constructors.length, 1);
        check.due("parameters of the constructor", constructors[0].getParameterCount(), 0);
        for (Class<?> inside : face.getDeclaredClasses()) {
            check.dueTrue(inside + " is private and static", Modifier.isPrivate(inside.getModifiers())
                    && Modifier.isStatic(inside.getModifiers()));
            for (Method m : inside.getDeclaredMethods()) {
                check.dueTrue(m + " does not bear the name of a public method", !FACE.contains(m.getName() + "/"));
            }
        }
    }

    private static String withoutComments(String source) {
        return source.replaceAll("(?s)/\\*.*?\\*/", "").replaceAll("//[^\n]*", "");
    }

    private void words(String code) {
        for (String word : RULED_OUT) {
            check.dueTrue("no " + word, !Pattern.compile(word).matcher(code).find());
        }
        Matcher imports = Pattern.compile("\\bimport\\s+([^;]+);").matcher(code);
        while (imports.find()) {
            check.dueTrue("import " + imports.group(1), imports.group(1).equals("java.util.Arrays"));
        }
        Matcher library = Pattern.compile("\\b(Math|Arrays|System|Integer|Long)\\.(\\w+)").matcher(code);
        Set<String> allowed = Set.of("Math.max", "Math.min", "Math.floorMod", "Arrays.fill", "System.arraycopy");
        while (library.find()) {
            check.dueTrue("library " + library.group(), allowed.contains(library.group()));
        }
        check.dueTrue("at most 12 classes", code.split("\\bclass\\b").length - 1 <= 12);
    }

    /** No method is longer than some sixty lines or takes more than seven parameters. */
    private void methods(String code) {
        Matcher heads = Pattern.compile("(?m)^( {4}| {8})\\S[^;=\n]*\\(([^)]*)\\) \\{\n(?s:.*?)\n\\1\\}$").matcher(code);
        int found = 0;
        while (heads.find()) {
            if (heads.group().contains("class ")) {
                continue;
            }
            found++;
            int lines = heads.group().split("\n").length;
            check.dueTrue("lines of " + heads.group().split("\n")[0], lines <= MOST_LINES);
            check.dueTrue("parameters of " + heads.group().split("\n")[0], heads.group(2).split(",").length <= 7);
        }
        check.dueTrue("methods were found: " + found, found > 60);
    }

    /** The bytes that a thread has been given are counted by the machine; calls may ask for none. */
    private void room() {
        com.sun.management.ThreadMXBean threads =
                (com.sun.management.ThreadMXBean) ManagementFactory.getThreadMXBean();
        long thread = Thread.currentThread().getId();
        useAll(new LieAlgebra());
        LieAlgebra x = new LieAlgebra();
        long before = threads.getThreadAllocatedBytes(thread);
        for (int k = 0; k < 17; k++) {
            useAll(x);
        }
        long calls = threads.getThreadAllocatedBytes(thread) - before;
        check.dueTrue("bytes made by 544 calls: " + calls, calls < 4096);
        before = threads.getThreadAllocatedBytes(thread);
        new LieAlgebra();
        long object = threads.getThreadAllocatedBytes(thread) - before;
        check.dueTrue("bytes made by the constructor: " + object, object < 16384);
    }

    private static void useAll(LieAlgebra x) {
        x.configure(5, 5);
        x.setBracket(0, 1, 3000);
        x.setBracket(0, 2, 1234);
        x.setBracket(3, 4, 77);
        x.append(91);
        x.loadText();
        x.clearText();
        x.prime();
        x.dimension();
        x.bracket(3124, 1111);
        x.jacobiFailure();
        x.derivedDimension(9);
        x.lowerCentralDimension(9);
        x.derivedVector(9, 1);
        x.kind();
        x.centerDimension();
        x.centerVector(0);
        x.centralizerDimension(3000);
        x.idealDimension(77);
        x.subalgebraDimension(1, 999);
        x.subalgebraVector(1, 999, 2);
        x.adjointEntry(3000, 1, 2);
        x.nilpotencyIndex(3000);
        x.killing(2000, 3000);
        x.killingRadicalDimension();
        x.derivationDimension();
        x.addBasis(0, 1, 4);
        x.scaleBasis(0, 3);
        x.swapBasis(0, 4);
        x.undo();
        x.save(0);
        x.restore(0);
    }
}
