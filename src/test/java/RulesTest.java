import java.io.IOException;
import java.lang.management.ManagementFactory;
import java.lang.reflect.Field;
import java.lang.reflect.Method;
import java.lang.reflect.Modifier;
import java.nio.file.Files;
import java.nio.file.Path;
import java.util.ArrayList;
import java.util.HashSet;
import java.util.List;
import java.util.Set;
import java.util.regex.Matcher;
import java.util.regex.Pattern;

/** What LANGUAGE.md rules out, the bounds that it sets, and the room that calls take. */
public final class RulesTest {
    private static final String[] RULED_OUT = {
        "\\bthrow\\b", "\\bthrows\\b", "\\btry\\b", "\\bcatch\\b", "\\bfinally\\b", "\\bsynchronized\\b",
        "\\bassert\\b", "->", "::", "\\bObject\\b", "\\bpackage\\b", "\\bnull\\b", "\\bequals\\b", "\\bhashCode\\b",
        "\\btoString\\b", "Exact\\b", "\\bThread\\b", "\\bRandom\\b", "nanoTime", "currentTimeMillis", "\"", "@",
        "\\bprotected\\b", "\\bnative\\b", "\\btransient\\b", "\\bvolatile\\b", "\\bdouble\\b", "\\bfloat\\b"};
    private static final int MOST_LINES = 60;
    private static final int MOST_DEEP = 8;

    private final Check check = new Check();

    public static void main(String[] args) throws IOException {
        RulesTest t = new RulesTest();
        t.inside();
        Path file = Path.of("src/main/java/LieAlgebra.java");
        String source = Files.readString(file);
        t.words(withoutComments(source));
        t.methods(withoutComments(source));
        t.depth(CallTree.of(file).longestChain());
        t.room();
        t.check.end();
    }

    /** The public face itself is compared in DocumentTest; here is what stands behind it. */
    private void inside() {
        Set<String> face = new HashSet<>();
        for (Method m : LieAlgebra.class.getDeclaredMethods()) {
            if (Modifier.isPublic(m.getModifiers())) {
                face.add(m.getName());
            }
        }
        List<Class<?>> classes = new ArrayList<>(List.of(LieAlgebra.class.getDeclaredClasses()));
        for (Class<?> c : classes) {
            check.dueTrue(c + " is private and static", Modifier.isPrivate(c.getModifiers())
                    && Modifier.isStatic(c.getModifiers()));
            check.due("classes inside " + c, c.getDeclaredClasses().length, 0);
        }
        classes.add(LieAlgebra.class);
        for (Class<?> c : classes) {
            for (Method m : c.getDeclaredMethods()) {
                check.dueTrue(m + " does not bear the name of a public method",
                        Modifier.isPublic(m.getModifiers()) || !face.contains(m.getName()));
            }
            fields(c);
        }
    }

    /** Some twenty fields beside the constants, and no static state. */
    private void fields(Class<?> c) {
        int own = 0;
        for (Field f : c.getDeclaredFields()) {
            if (Modifier.isStatic(f.getModifiers())) {
                check.dueTrue(f + " is a constant", Modifier.isFinal(f.getModifiers()) && f.getType() == int.class);
            } else {
                own++;
            }
        }
        check.dueTrue("fields of " + c, own <= 20);
    }

    private static String withoutComments(String source) {
        return source.replaceAll("(?s)/\\*.*?\\*/", "").replaceAll("//[^\n]*", "");
    }

    private void words(String code) {
        for (String word : RULED_OUT) {
            check.dueTrue("no " + word, !Pattern.compile(word).matcher(code).find());
        }
        Matcher imports = Pattern.compile("\\bimport\\s+([^;]+);").matcher(code);
        while (imports.find()) {
            check.dueTrue("import " + imports.group(1), imports.group(1).equals("java.util.Arrays"));
        }
        Matcher library = Pattern.compile("\\b(Math|Arrays|System|Integer|Long)\\.(\\w+)").matcher(code);
        Set<String> allowed = Set.of("Math.max", "Math.min", "Math.floorMod", "Arrays.fill", "System.arraycopy");
        while (library.find()) {
            check.dueTrue("library " + library.group(), allowed.contains(library.group()));
        }
        check.dueTrue("at most 12 classes", code.split("\\bclass\\b").length - 1 <= 12);
    }

    /** No method is longer than some sixty lines or takes more than seven parameters. */
    private void methods(String code) {
        Matcher heads = Pattern.compile("(?m)^( {4}| {8})\\S[^;=\n]*\\(([^)]*)\\) \\{\n(?s:.*?)\n\\1\\}$").matcher(code);
        int found = 0;
        while (heads.find()) {
            if (heads.group().contains("class ")) {
                continue;
            }
            found++;
            int lines = heads.group().split("\n").length;
            check.dueTrue("lines of " + heads.group().split("\n")[0], lines <= MOST_LINES);
            check.dueTrue("parameters of " + heads.group().split("\n")[0], heads.group(2).split(",").length <= 7);
        }
        check.dueTrue("methods were found: " + found, found > 60);
    }

    /** No recursion (CallTree ends at one), and at most eight calls open at once. */
    private void depth(List<String> chain) {
        check.dueTrue("a chain of calls was found: " + chain, chain.size() > 3);
        check.dueTrue("this chain of calls is at most " + MOST_DEEP + " deep: " + chain, chain.size() <= MOST_DEEP);
    }

    /** The bytes that a thread has been given are counted by the machine; calls may ask for none. */
    private void room() {
        com.sun.management.ThreadMXBean threads =
                (com.sun.management.ThreadMXBean) ManagementFactory.getThreadMXBean();
        long thread = Thread.currentThread().getId();
        useAll(new LieAlgebra());
        LieAlgebra x = new LieAlgebra();
        long before = threads.getThreadAllocatedBytes(thread);
        for (int k = 0; k < 17; k++) {
            useAll(x);
        }
        long calls = threads.getThreadAllocatedBytes(thread) - before;
        check.dueTrue("bytes made by 544 calls: " + calls, calls < 4096);
        before = threads.getThreadAllocatedBytes(thread);
        new LieAlgebra();
        long object = threads.getThreadAllocatedBytes(thread) - before;
        check.dueTrue("bytes made by the constructor: " + object, object < 16384);
    }

    private static void useAll(LieAlgebra x) {
        x.configure(5, 5);
        x.setBracket(0, 1, 3000);
        x.setBracket(0, 2, 1234);
        x.setBracket(3, 4, 77);
        x.append(91);
        x.loadText();
        x.clearText();
        x.prime();
        x.dimension();
        x.bracket(3124, 1111);
        x.jacobiFailure();
        x.derivedDimension(9);
        x.lowerCentralDimension(9);
        x.derivedVector(9, 1);
        x.kind();
        x.centerDimension();
        x.centerVector(0);
        x.centralizerDimension(3000);
        x.idealDimension(77);
        x.subalgebraDimension(1, 999);
        x.subalgebraVector(1, 999, 2);
        x.adjointEntry(3000, 1, 2);
        x.nilpotencyIndex(3000);
        x.killing(2000, 3000);
        x.killingRadicalDimension();
        x.derivationDimension();
        x.addBasis(0, 1, 4);
        x.scaleBasis(0, 3);
        x.swapBasis(0, 4);
        x.undo();
        x.save(0);
        x.restore(0);
    }
}
