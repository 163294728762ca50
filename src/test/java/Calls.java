import java.lang.reflect.InvocationTargetException;
import java.lang.reflect.Method;
import java.util.regex.Matcher;
import java.util.regex.Pattern;

/** Calls as the document writes them, "bracket(1, 3)", made on an object. */
final class Calls {
    static final Pattern CALL = Pattern.compile("(\\w+)\\(([-0-9, ]*)\\)");

    private Calls() {
    }

    static int make(LieAlgebra x, String call) {
        Matcher parts = CALL.matcher(call);
        if (!parts.matches()) {
            throw new IllegalArgumentException("no call: " + call);
        }
        String[] words = parts.group(2).isBlank() ? new String[0] : parts.group(2).split(",");
        Object[] arguments = new Object[words.length];
        Class<?>[] types = new Class<?>[words.length];
        for (int k = 0; k < words.length; k++) {
            arguments[k] = Integer.parseInt(words[k].strip());
            types[k] = int.class;
        }
        try {
            Method method = LieAlgebra.class.getMethod(parts.group(1), types);
            return (Integer) method.invoke(x, arguments);
        } catch (NoSuchMethodException | IllegalAccessException | InvocationTargetException e) {
            throw new IllegalStateException(call, e);
        }
    }
}
