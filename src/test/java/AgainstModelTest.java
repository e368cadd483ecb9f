import java.lang.reflect.Method;
import java.lang.reflect.Modifier;
import java.util.ArrayList;
import java.util.Arrays;
import java.util.Comparator;
import java.util.List;
import java.util.Random;
import java.util.stream.IntStream;

/** Random runs of calls (from fixed seeds) on the class and on the Model: every answer must be the same. */
public final class AgainstModelTest {
    private static final int MOST_CALLS = 500;

    private static List<Method> face() {
        List<Method> face = new ArrayList<>();
        for (Method method : BranchGuess.class.getDeclaredMethods()) {
            if (Modifier.isPublic(method.getModifiers())) {
                face.add(method);
            }
        }
        face.sort(Comparator.comparing(Method::getName));
        return face;
    }

    private static final class Pair {
        final BranchGuess real = new BranchGuess();
        final Model model = new Model();
        final Random random;
        final List<Method> face;
        final StringBuilder log = new StringBuilder();
        int calls = 0;
        String trouble = null;

        Pair(long seed, List<Method> face) {
            this.random = new Random(seed);
            this.face = face;
        }

        void call(Method method, Object... args) {
            if (trouble != null || calls >= 512) {
                return;
            }
            calls++;
            try {
                long got = ((Number) method.invoke(real, args)).longValue();
                Method same = Model.class.getMethod(method.getName(), method.getParameterTypes());
                long want = ((Number) same.invoke(model, args)).longValue();
                log.append(method.getName()).append(Arrays.toString(args)).append(" = ").append(got).append('\n');
                if (got != want) {
                    trouble = method.getName() + Arrays.toString(args) + " answered " + got + ", due is " + want;
                }
            } catch (ReflectiveOperationException e) {
                trouble = method.getName() + Arrays.toString(args) + " threw " + e + " by " + e.getCause();
            }
        }

        Method named(String name) {
            for (Method method : face) {
                if (method.getName().equals(name)) {
                    return method;
                }
            }
            throw new IllegalStateException(name);
        }

        void load(String text) {
            call(named("end"), 0);
            for (int from = 0; from < text.length(); from += 20) {
                int[] f = Programs.feedOf(text, from);
                call(named("feed"), f[0], f[1], f[2], f[3], f[4]);
            }
            call(named("end"), text.length());
            log.append("text: ").append(text).append('\n');
            call(named("program"));
            call(named("fault"), 0);
            call(named("fault"), 1);
        }

        int near(int low, int high) {
            int dice = random.nextInt(40);
            if (dice == 0) {
                return low - 1;
            }
            if (dice == 1) {
                return high + 1;
            }
            if (dice == 2) {
                int[] far = {Integer.MIN_VALUE, Integer.MAX_VALUE, -1, 1 << 30, -1000, 64};
                return far[random.nextInt(far.length)];
            }
            if (dice < 6) {
                return random.nextBoolean() ? low : high;
            }
            return low + random.nextInt(Math.max(1, high - low + 1));
        }

        int moment() {
            return near(0, real.count(8) + real.count(9));
        }

        int address() {
            if (random.nextInt(3) > 0 && real.count(8) + real.count(9) > 0) {
                return Math.max(0, real.branch(random.nextInt(real.count(8) + real.count(9)), 0));
            }
            return near(0, 63);
        }

        int table(int least) {
            return near(least, real.count(6));
        }

        void anyCall() {
            Method method = face.get(random.nextInt(face.size()));
            int n = near(1, 16);
            int bits = near(0, (1 << Math.max(0, Math.min(16, n))) - 1);
            switch (method.getName()) {
                case "feed": call(method, random.nextInt(), 5, 6, 7, 8); call(named("end"), 0); break;
                case "end": call(method, near(0, 0)); break;
                case "program": if (random.nextInt(20) == 0) call(method); break;
                case "fault": call(method, near(0, 2)); break;
                case "op": call(method, near(0, real.count(7) - 1), near(0, 3)); break;
                case "next": call(method, near(0, real.steps())); break;
                case "register": call(method, near(0, 7), near(0, real.steps())); break;
                case "branch": call(method, moment(), near(0, 8)); break;
                case "wrong": call(method, moment()); break;
                case "wrongs": call(method, address()); break;
                case "said": case "gained": call(method, near(0, 2)); break;
                case "provided": call(method, table(0)); break;
                case "history": call(method, moment(), near(0, 30)); break;
                case "fold": call(method, moment(), near(1, 40), near(1, 10)); break;
                case "index": case "tag": call(method, table(1), address(), moment()); break;
                case "provider": case "alternate": case "guess": case "adds":
                    call(method, address(), moment()); break;
                case "entry": call(method, table(1), near(0, (1 << real.count(0)) - 1), near(0, 2), moment()); break;
                case "held": call(method, table(0), moment()); break;
                case "base": call(method, near(0, 15), moment()); break;
                case "gauge": call(method, near(0, 3), moment()); break;
                case "loop": call(method, near(0, 7), near(0, 4), moment()); break;
                case "corrector": call(method, near(0, 2), near(0, 15), moment()); break;
                case "clash": call(method, address(), address(), moment()); break;
                case "strays": call(method, near(0, real.count(8) - 1)); break;
                case "stray": call(method, near(0, real.count(8) - 1), near(0, 7)); break;
                case "by": call(method, near(0, 7)); break;
                case "without": call(method, table(1)); break;
                case "spanned": call(method, table(1), near(1, 40)); break;
                case "span": call(method, table(1)); break;
                case "round": call(method, address(), bits, n, near(0, 29)); break;
                case "learnt": call(method, address(), bits, n); break;
                case "learns": call(method, address(), near(1, random.nextInt(4) == 0 ? 5 : 3)); break;
                case "trace": fillTrace(); call(method, near(0, 3)); break;
                case "like": fillLike(); call(method, near(0, 3)); break;
                case "meets": burst(method); break;
                case "undo": call(method); break;
                case "anew": if (random.nextInt(5) == 0) call(method); break;
                case "count": call(method, near(0, 12)); break;
                case "image": case "back": call(method, near(0, 2)); break;
                case "row": call(method, near(0, 3), near(0, 1), near(0, 60)); break;
                case "write": call(method, near(0, 3), near(0, 59), random.nextInt(3) == 0
                    ? random.nextLong() : (long) near(0, 127)); break;
                case "number": call(method, near(0, 3), near(0, 59)); break;
                default: call(method); break;
            }
        }

        /** Acts that go on in one way, so that what is learnt comes to its bounds. */
        void burst(Method meets) {
            int way = random.nextInt(5);
            int a = address();
            int other = address();
            int n = 1 + random.nextInt(12);
            for (int i = 0; i < n; i++) {
                int met = random.nextInt(4) == 0 ? other : a;
                int end = real.count(8) + real.count(9);
                int taken = near(0, 1);
                if (way == 1) {
                    taken = 1 - real.guess(met, end);
                } else if (way == 2) {
                    taken = real.guess(met, end);
                } else if (way == 3) {
                    met = splitAddress(met, end);
                    taken = real.adds(met, end) > 0 ? 0 : 1;
                } else if (way == 4) {
                    taken = i % 2;
                }
                call(meets, met, taken);
            }
        }

        /** One at which CORRECTOR's side is other than what is said first, if there is one. */
        int splitAddress(int met, int end) {
            for (int i = 0; i < 64; i++) {
                int a = (i + met) & 63;
                int sum = real.adds(a, end);
                if (sum > -6 && sum < 6 && sum != -3) {
                    return a;
                }
            }
            return met;
        }

        /** All that is learnt by a MOMENT; these calls aren't counted, as the class has no bound on them. */
        void sweep(int moment) {
            int before = calls;
            calls = 0;
            for (int table = 1; table <= real.count(6); table++) {
                for (int i = 0; i < 1 << real.count(0); i++) {
                    for (int what = 0; what < 3; what++) {
                        sweepCall("entry", table, i, what, moment);
                    }
                }
            }
            for (int i = 0; i < 16; i++) {
                sweepCall("base", i, moment);
                for (int row = 0; row < 3; row++) {
                    sweepCall("corrector", row, i, moment);
                }
            }
            for (int i = 0; i < 40; i++) {
                sweepCall("loop", i / 5, i % 5, moment);
                sweepCall("gauge", i % 4, moment);
            }
            calls = before;
        }

        private void sweepCall(String name, Object... numbers) {
            calls = 0;
            call(named(name), numbers);
        }

        void fillTrace() {
            int n = random.nextInt(20);
            int slot = random.nextInt(4);
            call(named("row"), slot, random.nextInt(2), n);
            int a = address();
            for (int i = 0; i < n; i++) {
                call(named("write"), slot, i, (long) (2 * (random.nextInt(3) == 0 ? near(0, 63) : a) + random.nextInt(2)));
            }
            call(named("trace"), slot);
        }

        void fillLike() {
            int all = real.count(8) + real.count(9);
            int n = Math.min(60, random.nextInt(25));
            int slot = random.nextInt(4);
            call(named("row"), slot, random.nextInt(2), n);
            for (int i = 0; i < n; i++) {
                if (i < all && random.nextInt(60) != 0) {
                    call(named("write"), slot, i, (long) real.branch(i, 2));
                } else {
                    call(named("write"), slot, i, (long) near(0, 1));
                }
            }
            call(named("like"), slot);
        }

        void play() {
            for (int i = 0; i < 5; i++) {
                anyCall();
            }
            while (calls < MOST_CALLS && trouble == null) {
                String text = Programs.random(random);
                if (random.nextInt(3) == 0) {
                    for (int i = 0; i < 4; i++) {
                        load(Programs.spoilt(random, text));
                    }
                }
                load(text);
                int more = 20 + random.nextInt(150);
                for (int i = 0; i < more && calls < MOST_CALLS && trouble == null; i++) {
                    anyCall();
                }
                sweep(real.count(8) + real.count(9));
                sweep(random.nextInt(real.count(8) + real.count(9) + 1));
            }
        }
    }

    public static void main(String[] args) {
        long first = args.length > 0 ? Long.parseLong(args[0]) : 1;
        int runs = args.length > 1 ? Integer.parseInt(args[1]) : 240;
        List<Method> face = face();
        List<Pair> bad = new ArrayList<>();
        long calls = IntStream.range(0, runs).parallel().mapToLong(i -> {
            Pair pair = new Pair(first + i, face);
            pair.play();
            if (pair.trouble != null) {
                synchronized (bad) {
                    bad.add(pair);
                }
            }
            return pair.calls;
        }).sum();
        for (Pair pair : bad.subList(0, Math.min(3, bad.size()))) {
            System.out.println(pair.log);
            System.out.println(pair.trouble);
        }
        System.out.println(runs + " runs, " + calls + " calls, " + bad.size() + " runs with an answer that is not as due");
        if (!bad.isEmpty() || calls < 400L * runs) {
            System.exit(1);
        }
    }
}
