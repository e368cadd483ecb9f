import java.lang.reflect.Method;
import java.lang.reflect.Modifier;

/** Every call with every odd number, in several states: none throws. */
public final class NeverThrowsTest {
    private static final int[] ODD = {Integer.MIN_VALUE, -1001, -2, -1, 0, 1, 2, 3, 4, 5, 7, 8, 15, 16, 30, 31, 32, 39,
        40, 41, 59, 60, 61, 63, 64, 65, 200, 201, 240, 241, 800, 65536, 1 << 30, Integer.MAX_VALUE};
    private static int calls = 0;
    private static int wrong = 0;

    private static void call(BranchGuess x, Method method, int[] numbers) {
        Class<?>[] types = method.getParameterTypes();
        Object[] args = new Object[types.length];
        for (int i = 0; i < args.length; i++) {
            if (types[i] == long.class) {
                args[i] = (long) numbers[i];
            } else {
                args[i] = numbers[i];
            }
        }
        calls++;
        try {
            method.invoke(x, args);
        } catch (ReflectiveOperationException e) {
            wrong++;
            System.out.println(method.getName() + " threw " + e.getCause());
        }
    }

    /** All of the odd numbers for one and for two parameters; for more, each in turn with a shift. */
    private static void calls(BranchGuess x, Method method) {
        int n = method.getParameterCount();
        int[] numbers = new int[n];
        for (int a = 0; a < ODD.length; a++) {
            for (int b = 0; b < ODD.length; b++) {
                for (int i = 0; i < n; i++) {
                    numbers[i] = ODD[(i == 0 ? a : i == 1 ? b : a * i + b * (i + 1)) % ODD.length];
                }
                call(x, method, numbers);
                if (n < 2) {
                    break;
                }
            }
            if (n < 1) {
                break;
            }
        }
    }

    public static void main(String[] args) {
        String[] states = {"", "guesser rows 1 tag 2 age 1 cost 0 deep 0 parts 7;",
            "guesser rows 4 tag 6 age 9 cost 20 deep 9 parts 7;span 1;span 2;span 3;span 4;span 40;"
                + "add 0 1;odd 0 0;sum 1 0;below 1 0 0;go 39;",
            "guesser rows 1 tag 2 age 1 cost 20 deep 9 parts 0;span 40;same 0 0 0;",
            "guesser rows 1 tag 2 age 1 cost 20 deep 9 parts 3;" + "odd 7 39;".repeat(40)};
        for (Method method : BranchGuess.class.getDeclaredMethods()) {
            if (!Modifier.isPublic(method.getModifiers())) {
                continue;
            }
            for (String state : states) {
                BranchGuess x = new BranchGuess();
                Programs.load(x, state);
                x.row(0, 0, 60);
                x.row(1, 1, 2);
                x.row(2, 1, 0);
                for (int i = 0; i < 40; i++) {
                    x.meets(i, i % 3 % 2);
                }
                calls(x, method);
            }
        }
        System.out.println(calls + " calls, " + wrong + " threw");
        if (wrong > 0 || calls < 1000) {
            System.exit(1);
        }
    }
}
