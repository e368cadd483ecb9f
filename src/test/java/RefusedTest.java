import java.lang.reflect.Method;
import java.util.ArrayList;
import java.util.Arrays;
import java.util.List;
import java.util.Map;
import java.util.TreeMap;

/** What a refused call leaves as it was, and what asking does not change: all that can be seen, looked at behind it. */
public final class RefusedTest {
    private static final Edges E = new Edges();
    private static final int PARTS = 9;
    private static final int FAULT_PART = 8;
    private static final int CALLS_AT_ONCE = 50;
    private static final long[] ODD = {Integer.MIN_VALUE, -61, -2, -1, 0, 1, 2, 3, 4, 5, 7, 8, 9, 12, 13, 15, 16, 17, 29,
        30, 31, 40, 41, 59, 60, 61, 63, 64, 199, 200, 239, 240, 241, 780, 800, 801, 65536, Integer.MAX_VALUE};

    private static final String OTHER = Programs.head(3, 4, 5, 6, 7, 1) + "span 2;put 0 4;add 1 1;below 1 0 1;";
    private static final String SMALL = Programs.head(1, 2, 2, 4, 3, 7) + "span 1;span 3;"
        + "put 0 9;add 1 1;odd 1 1;below 1 0 1;stop;";
    private static final String FULL = Programs.head(2, 3, 3, 9, 9, 7) + "span 1;span 2;span 4;span 8;span 40;same 0 0 0;";

    /** Calls that change something unless they are refused, each with the sentence that says so. */
    private static final Map<String, String[]> CHANGES = changes();

    private static Map<String, String[]> changes() {
        Map<String, String[]> all = new TreeMap<>();
        all.put("feed", new String[] {"2", "NONE, and none come, if it would have more than 800."});
        all.put("end", new String[] {"3", "NONE, and nothing happens, if it has not so many, or n is below 0."});
        all.put("meets", new String[] {"49",
            "-2: there is no such ADDRESS (0 .. 63), taken is neither 0 nor 1, no PROGRAM; -5: there were 40."});
        all.put("undo", new String[] {"50", "-2: there is no PROGRAM; -5: there is none."});
        all.put("anew", new String[] {"51", "-2 likewise."});
        all.put("image", new String[] {"53", "-2: no such k."});
        all.put("back", new String[] {"54", "-2: no such k; -6: it has nothing."});
        all.put("row", new String[] {"55",
            "-2: there is no such SLOT or WIDTH (0, 1), or n is above 60; -3, and the SLOT stays: n is below 0."});
        all.put("write", new String[] {"56",
            "-2: there is no such SLOT; -6: it has nothing; -7: there is no such number."});
        all.put("program", new String[] {"4", "-4: a FAULT (all stays)."});
        return all;
    }

    private static final int SCENES = 5;

    /** Nothing; no PROGRAM; a bit of everything; all that there can be; TABLES each of which makes a difference. */
    private static Asked scene(int which) {
        Asked x = E.fresh();
        if (which == 1) {
            x.row(1, 1, 5, 1L << 40, -7);
            x.call("image", 0);
            x.load("x");
            x.tape(OTHER);
        } else if (which == 2) {
            x.load(OTHER);
            x.acts(9, "TTN").call("image", 0);
            x.load(SMALL);
            x.acts(5, "TNT").acts(63, "N").call("image", 2);
            x.acts(5, "TN").row(0, 0, 3, 127, 0).row(2, 1, 1, 0, 1, 1).row(3, 1);
            x.tape(OTHER);
        } else if (which == 3) {
            x.load(FULL);
            x.acts(5, "TNT").call("image", 0);
            x.acts(9, "TNTTN".repeat(7)).acts(11, "TN").call("image", 1);
            for (int slot = 0; slot < 4; slot++) {
                x.call("row", slot, slot % 2, 60);
                x.call("write", slot, 0, 1);
                x.call("write", slot, 59, 1);
            }
            x.call("image", 2);
            x.tape(OTHER + " ".repeat(800 - OTHER.length()));
        } else if (which == 4) {
            x.load(Scenes.TEXTS[2]);
            x.acts(Scenes.ACTS[2]).row(0, 0, 3, 127, 0).row(1, 1, 0);
        }
        return x;
    }

    /** The answers to a part of all that can be asked; what is kept besides (TAPE, IMAGES, WIDTHS) is brought to light. */
    private static List<Long> look(int part, Asked x) {
        List<Long> seen = new ArrayList<>();
        long branches = x.call("count", 8) + x.call("count", 9);
        switch (part) {
            case 0: lookAtRun(x, seen); break;
            case 1: lookAtBranches(x, seen, branches); break;
            case 2: lookAtTables(x, seen, branches); break;
            case 3: lookAtOthers(x, seen, branches); break;
            case 4: lookAtRivals(x, seen); break;
            case 5: lookAtSlots(x, seen); break;
            case 6: lookAtImages(x, seen); break;
            case 7: lookAtTape(x, seen); break;
            default:
                for (int what = 0; what < 3; what++) {
                    seen.add(x.call("fault", what));
                }
                break;
        }
        return seen;
    }

    private static void lookAtRun(Asked x, List<Long> seen) {
        for (int what = 0; what <= 12; what++) {
            seen.add(x.call("count", what));
        }
        for (int op = 0; op < Math.min(20, x.call("count", 7)); op++) {
            for (int what = 0; what < 4; what++) {
                seen.add(x.call("op", op, what));
            }
        }
        seen.add(x.call("steps"));
        seen.add(x.call("why"));
        for (int step = 0; step <= Math.min(30, x.call("steps")); step++) {
            seen.add(x.call("next", step));
            seen.add(x.call("register", 1, step));
        }
        for (int register = 0; register < 8; register++) {
            seen.add(x.call("register", register, x.call("steps")));
        }
    }

    private static void lookAtBranches(Asked x, List<Long> seen, long branches) {
        for (long b = Math.max(0, branches - 24); b < branches; b++) {
            for (int what = 0; what < 9; what++) {
                seen.add(x.call("branch", b, what));
            }
            seen.add(x.call("wrong", b));
        }
        seen.add(x.call("wrong", branches));
        seen.add(x.call("worst"));
        seen.add(x.call("streak"));
        for (int i = 0; i < 6; i++) {
            seen.add(x.call("said", i));
            seen.add(x.call("gained", i));
            seen.add(x.call("provided", i));
            seen.add(x.call("wrongs", 2 + i));
        }
        for (int n = 0; n <= 30; n += 10) {
            seen.add(x.call("history", branches, n));
        }
    }

    private static void lookAtTables(Asked x, List<Long> seen, long branches) {
        for (int t = 1; t <= x.call("count", 6); t++) {
            for (int i = 0; i < 1 << x.call("count", 0); i++) {
                for (int what = 0; what < 3; what++) {
                    seen.add(x.call("entry", t, i, what, branches));
                }
            }
            seen.add(x.call("held", t, branches));
            seen.add(x.call("index", t, 33, branches));
            seen.add(x.call("tag", t, 33, branches));
        }
        for (int i = 0; i < 16; i++) {
            seen.add(x.call("base", i, branches));
        }
        for (int what = 0; what < 4; what++) {
            seen.add(x.call("gauge", what, branches));
        }
        for (int a = 0; a < 64; a += 9) {
            seen.add(x.call("provider", a, branches));
            seen.add(x.call("alternate", a, branches));
            seen.add(x.call("guess", a, branches));
            seen.add(x.call("adds", a, branches));
        }
    }

    private static void lookAtOthers(Asked x, List<Long> seen, long branches) {
        for (int i = 0; i < 48; i++) {
            seen.add(x.call("corrector", i / 16, i % 16, branches));
        }
        for (int i = 0; i < 40; i++) {
            seen.add(x.call("loop", i / 5, i % 5, branches));
        }
        for (long m = 0; m <= branches; m += 17) {
            seen.add(x.call("gauge", 2, m));
            seen.add(x.call("held", 0, m));
        }
        for (int b = 0; b < Math.min(20, x.call("count", 8)); b++) {
            seen.add(x.call("strays", b));
            seen.add(x.call("stray", b, 1));
        }
    }

    private static void lookAtRivals(Asked x, List<Long> seen) {
        for (int p = 0; p < 8; p++) {
            seen.add(x.call("by", p));
        }
        for (int t = 1; t <= x.call("count", 6); t++) {
            seen.add(x.call("without", t));
            seen.add(x.call("span", t));
            seen.add(x.call("spanned", t, 7));
        }
        seen.add(x.call("ideal"));
        seen.add(x.call("spare"));
        seen.add(x.call("cycles"));
        seen.add(x.call("cheapest"));
        seen.add(x.call("learns", 3, 3));
        seen.add(x.call("learnt", 3, 9, 5));
        seen.add(x.call("round", 3, 9, 5, 2));
        for (int slot = 0; slot < 4; slot++) {
            seen.add(x.call("trace", slot));
            seen.add(x.call("like", slot));
        }
    }

    private static void lookAtSlots(Asked x, List<Long> seen) {
        for (int slot = 0; slot < 4; slot++) {
            for (int i = 0; i < 61; i++) {
                seen.add(x.call("number", slot, i));
            }
            seen.add(x.call("write", slot, 0, 1L << 50));
            seen.add(x.call("number", slot, 0));
        }
    }

    private static void lookAtImages(Asked x, List<Long> seen) {
        for (int k = 0; k < 3; k++) {
            seen.add(x.call("back", k));
            for (int what = 0; what <= 10; what++) {
                seen.add(x.call("count", what));
            }
            seen.add(x.call("op", 1, 0));
            seen.add(x.call("ideal"));
            seen.add(x.call("by", 0));
        }
        for (int i = 0; i < 42; i++) {
            seen.add(x.call("wrong", x.call("count", 8) + x.call("count", 9)));
            seen.add(x.call("undo"));
        }
    }

    private static void lookAtTape(Asked x, List<Long> seen) {
        seen.add(x.call("count", 11));
        seen.add(x.call("program"));
        seen.add(x.call("fault", 0));
        seen.add(x.call("fault", 1));
        for (int what = 0; what <= 12; what++) {
            seen.add(x.call("count", what));
        }
    }

    private static final List<List<List<Long>>> UNTOUCHED = untouched();

    private static List<List<List<Long>>> untouched() {
        List<List<List<Long>>> all = new ArrayList<>();
        for (int scene = 0; scene < SCENES; scene++) {
            List<List<Long>> parts = new ArrayList<>();
            for (int part = 0; part < PARTS; part++) {
                parts.add(look(part, scene(scene)));
            }
            all.add(parts);
        }
        return all;
    }

    /** Makes calls, none of which may change a thing, and looks at each part behind them. */
    private static void looksAsBefore(int scene, String name, List<long[]> calls) {
        for (int from = 0; from < calls.size(); from += CALLS_AT_ONCE) {
            List<long[]> some = calls.subList(from, Math.min(calls.size(), from + CALLS_AT_ONCE));
            for (int part = 0; part < PARTS; part++) {
                Asked x = scene(scene);
                for (long[] numbers : some) {
                    x.call(name, numbers);
                }
                E.holds("scene " + scene + " is as before behind " + name + " from " + Arrays.toString(some.get(0)) + " to "
                    + Arrays.toString(some.get(some.size() - 1)) + ", part " + part,
                    look(part, x).equals(UNTOUCHED.get(scene).get(part)));
            }
        }
    }

    /** Each number in turn is an odd one, the others small ones. */
    private static List<long[]> calls(int parameters) {
        List<long[]> calls = new ArrayList<>();
        if (parameters == 0) {
            calls.add(new long[0]);
        }
        for (int i = 0; i < parameters; i++) {
            for (int small = 0; small <= 1; small++) {
                for (long odd : ODD) {
                    long[] numbers = new long[parameters];
                    Arrays.fill(numbers, small);
                    numbers[i] = odd;
                    calls.add(numbers);
                }
            }
        }
        return calls;
    }

    private static void refusals(String name, int parameters) {
        int refused = 0;
        for (int scene = 0; scene < SCENES; scene++) {
            List<long[]> refusedHere = new ArrayList<>();
            for (long[] numbers : calls(parameters)) {
                if (scene(scene).call(name, numbers) < 0) {
                    refusedHere.add(numbers);
                }
            }
            refused += refusedHere.size();
            looksAsBefore(scene, name, refusedHere);
        }
        E.holds(name + " was refused", refused > 0);
    }

    /** All stays but for the TAPE, which is empty then, and what fault() tells. */
    private static void faults() {
        String[] bad = {"x", SMALL + "halt;", SMALL.replace("span 1", "span 3"), SMALL + "stop;".repeat(40), "guesser",
            Programs.head(4, 6, 9, 20, 9, 7) + "span 1;span 2;put 0 1000;"};
        for (String text : bad) {
            for (int scene = 0; scene < SCENES; scene++) {
                for (int part = 0; part < FAULT_PART; part++) {
                    Asked x = scene(scene);
                    Asked y = scene(scene);
                    E.due("program() of " + text, x.load(text), -4);
                    y.call("end", 0);
                    E.holds("scene " + scene + " is as before behind " + text + ", part " + part,
                        look(part, x).equals(look(part, y)));
                }
            }
        }
    }

    public static void main(String[] args) {
        for (Method method : Asked.methods()) {
            String name = method.getName();
            String[] sentence = CHANGES.get(name);
            if (sentence == null) {
                E.says("23", "(nothing is learnt)");
                for (int scene = 0; scene < SCENES; scene++) {
                    looksAsBefore(scene, name, calls(method.getParameterCount()));
                }
            } else {
                E.says(sentence[0], sentence[1]);
                if (name.equals("program")) {
                    faults();
                } else {
                    refusals(name, method.getParameterCount());
                }
            }
        }
        E.finish(false);
    }
}
