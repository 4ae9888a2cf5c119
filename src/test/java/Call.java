import java.lang.reflect.Method;
import java.util.HashMap;
import java.util.Map;
import java.util.Set;

/** One call of the program, told as it is written: "owe(0,1,40,98,0)". */
final class Call {
    /** What changes something; all other calls are questions. */
    private static final Set<String> CHANGES = Set.of("feed", "street", "unwilling", "owe", "over", "go", "back", "row",
            "judge", "clear", "image", "restore");
    private static final Map<String, Method> FACE = new HashMap<>();

    private final String text;
    private final Method method;
    private final Object[] numbers;

    Call(String text) {
        this.text = text;
        int open = text.indexOf('(');
        String inside = text.substring(open + 1, text.length() - 1);
        String[] parts = inside.isEmpty() ? new String[0] : inside.split(",");
        method = faceOf(text.substring(0, open));
        numbers = new Object[parts.length];
        for (int i = 0; i < parts.length; i++) {
            numbers[i] = Integer.parseInt(parts[i]);
        }
    }

    private static Method faceOf(String name) {
        if (FACE.isEmpty()) {
            for (Method m : KissesOwed.class.getDeclaredMethods()) {
                FACE.put(m.getName(), m);
            }
        }
        return FACE.get(name);
    }

    String text() {
        return text;
    }

    boolean changes() {
        return CHANGES.contains(method.getName());
    }

    long on(KissesOwed x) {
        try {
            return ((Number) method.invoke(x, numbers)).longValue();
        } catch (ReflectiveOperationException e) {
            throw new IllegalStateException(text, e);
        }
    }

    /** What this call answers when it is refused. */
    long refusal(int code) {
        if (method.getReturnType() == long.class) {
            return 4000000000000000000L - code;
        }
        return method.getName().equals("net") || method.getName().equals("gain") ? 1000000000L - code : code;
    }
}
