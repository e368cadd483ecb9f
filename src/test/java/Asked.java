import java.lang.reflect.Method;
import java.lang.reflect.Modifier;
import java.util.Arrays;
import java.util.Map;
import java.util.TreeMap;

/** An object whose calls are counted: the document promises nothing behind the 512th. */
final class Asked {
    private static final int MOST_CALLS = 512;
    private static final Map<String, Method> FACE = face();

    private final BranchGuess object = new BranchGuess();
    private final Edges edges;
    private int calls = 0;

    Asked(Edges edges) {
        this.edges = edges;
    }

    private static Map<String, Method> face() {
        Map<String, Method> face = new TreeMap<>();
        for (Method method : BranchGuess.class.getDeclaredMethods()) {
            if (Modifier.isPublic(method.getModifiers())) {
                face.put(method.getName(), method);
            }
        }
        return face;
    }

    static Iterable<Method> methods() {
        return FACE.values();
    }

    int calls() {
        return calls;
    }

    long call(String name, long... numbers) {
        Method method = FACE.get(name);
        if (method == null || method.getParameterCount() != numbers.length) {
            throw new IllegalStateException("no such call: " + name + Arrays.toString(numbers));
        }
        calls++;
        if (calls > MOST_CALLS) {
            throw new IllegalStateException("a test asks too much of one object: " + name + Arrays.toString(numbers));
        }
        Class<?>[] types = method.getParameterTypes();
        Object[] args = new Object[numbers.length];
        for (int i = 0; i < numbers.length; i++) {
            if (types[i] == long.class) {
                args[i] = numbers[i];
            } else {
                args[i] = Math.toIntExact(numbers[i]);
            }
        }
        try {
            return ((Number) method.invoke(object, args)).longValue();
        } catch (ReflectiveOperationException e) {
            throw new IllegalStateException(name + Arrays.toString(numbers) + " threw", e.getCause());
        }
    }

    Asked due(long want, String name, long... numbers) {
        edges.due(name + Arrays.toString(numbers), call(name, numbers), want);
        return this;
    }

    /** Puts bytes behind the TAPE; blanks fill the last call, and are cut off. */
    void tape(String text) {
        int had = (int) call("count", 11);
        for (int from = 0; from < text.length(); from += 20) {
            int[] f = Programs.feedOf(text, from);
            call("feed", f[0], f[1], f[2], f[3], f[4]);
        }
        call("end", had + text.length());
    }

    /** What program() answers to a text. */
    long load(String text) {
        call("end", 0);
        tape(text);
        return call("program");
    }

    /** Acts at an ADDRESS: T TAKEN, N not. */
    Asked acts(int address, String taken) {
        for (char sign : taken.toCharArray()) {
            call("meets", address, sign == 'T' ? 1 : 0);
        }
        return this;
    }

    /** Acts, each twice the ADDRESS, and 1 more, if TAKEN. */
    Asked acts(int[] met) {
        for (int one : met) {
            call("meets", one / 2, one % 2);
        }
        return this;
    }

    /** A SLOT has a row of these numbers. */
    Asked row(int slot, int width, long... numbers) {
        call("row", slot, width, numbers.length);
        for (int i = 0; i < numbers.length; i++) {
            call("write", slot, i, numbers[i]);
        }
        return this;
    }
}
