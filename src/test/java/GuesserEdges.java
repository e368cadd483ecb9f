import java.util.ArrayList;
import java.util.Arrays;
import java.util.List;
import java.util.Set;
import java.util.TreeSet;

/** Terms III, IV and V: what is said, and what is learnt, step by step, in scenes that come to every bound. */
final class GuesserEdges {
    private static final String HEAD = Programs.head(1, 2, 1, 3, 1, 0);
    /** 163 BRANCHES of RUN. */
    private static final String WIDE = "span 8;span 16;span 24;span 32;span 40;"
        + "odd 0 2;odd 1 2;below 0 1 4;same 0 1 4;add 0 377;below 1 0 7;add 1 613;odd 1 1;odd 0 0;go 0;";

    private final Edges e;
    private final List<Step> steps = new ArrayList<>();
    private final Set<String> seen = new TreeSet<>();

    GuesserEdges(Edges edges) {
        e = edges;
    }

    void all() {
        for (int i = 0; i < Scenes.TEXTS.length; i++) {
            steps.addAll(Step.of(e, Scenes.TEXTS[i], Scenes.ACTS[i]));
        }
        for (Step step : steps) {
            seen.addAll(step.cases());
        }
        histories();
        rowsAtFirst();
        indexes();
        base();
        providers();
        weakAndFirst();
        loopsSay();
        correctorSays();
        guesses();
        loopsLearn();
        correctorLearns();
        trustAndUse();
        counts();
        taking();
    }

    /** A case that one of the scenes must have come to, lest the sentence be looked at in vain. */
    private void met(String... cases) {
        for (String one : cases) {
            e.holds("a scene comes to: " + one, seen.contains(one));
        }
    }

    private void met(String ahead, int from, int to, String... behind) {
        for (int i = from; i <= to; i++) {
            for (String one : behind) {
                met(ahead + i + one);
            }
        }
    }

    private static String at(Step step) {
        return "BRANCH " + step.branch + " of " + step.text;
    }

    private void histories() {
        e.says("III", "HISTORY: what BRANCHES were (1 TAKEN, 0 not), bit 0 the latest one; 0 ahead of the first.");
        Asked x = e.of(HEAD).acts(5, "TNNTT");
        int[] due = {0, 1, 2, 4, 9, 19};
        for (int m = 0; m <= 5; m++) {
            x.due(due[m], "history", m, 30);
        }
        x = e.of(HEAD + "same 0 0 0;").acts(5, "N".repeat(29));
        x.due(0, "history", 0, 30).due((1 << 29) - 1, "history", 29, 30).due((1 << 30) - 1, "history", 30, 30);
        x.due((1 << 30) - 1, "history", 200, 30).due(1 << 29, "history", 229, 30);

        e.says("III", "FOLD of a span H to n bits: bit i of HISTORY, for each i below H, is put to bit i modulo n by "
            + "exclusive or.");
        for (int m : new int[] {0, 1, 39, 40, 41, wideEnd() - 1, wideEnd()}) {
            Asked wide = wide(4, 6);
            long past = pastOf(m);
            for (int span = 1; span <= 40; span++) {
                for (int n = 1; n <= 10; n++) {
                    wide.due(Step.fold(past, span, n), "fold", m, span, n);
                }
            }
        }
        // One TAKEN, 45 not: it goes up bit by bit, and is gone behind bit 39.
        x = e.of(HEAD).acts(5, "T" + "N".repeat(39));
        x.due(512, "fold", 40, 40, 10).due(256, "fold", 39, 40, 10).due(0, "fold", 40, 39, 10);
        x = e.of(HEAD + "same 0 0 2;stop;add 0 1;odd 4 3;odd 4 4;go 3;").acts(5, "N".repeat(40));
        x.due(512, "fold", 40, 40, 10).due(0, "fold", 41, 40, 10).due(0, "fold", 100, 40, 10);
    }

    private Asked wide(int rows, int tag) {
        return e.of(Programs.head(rows, tag, 3, 1, 1, 7) + WIDE).acts(33, "TNTTN".repeat(8));
    }

    private int wideEnd() {
        return (int) wide(4, 6).call("count", 8) + 40;
    }

    /** HISTORY at a MOMENT of wide(), by what BRANCHES were. */
    private long pastOf(int moment) {
        Asked x = wide(4, 6);
        long past = 0;
        for (int b = 0; b < moment; b++) {
            past = past << 1 | x.call("branch", b, 1);
        }
        return past;
    }

    private void rowsAtFirst() {
        e.says("III", "TABLES 1, 2, .. (by the span LINES, H) have 2 to the I ROWS each: EMPTY (at first), or with a TAG, "
            + "a COUNT -4 .. 3, a USE 0 .. 3.");
        for (int rows = 1; rows <= 4; rows++) {
            StringBuilder spans = new StringBuilder();
            for (int tables = 0; tables <= 5; tables++) {
                Asked x = e.of(Programs.head(rows, 2, 1, 0, 0, 0) + spans);
                for (int t = 1; t <= tables; t++) {
                    for (int i = 0; i < 1 << rows; i++) {
                        x.due(-1, "entry", t, i, 0, 0).due(0, "entry", t, i, 1, 0).due(0, "entry", t, i, 2, 0);
                    }
                    x.due(-1000, "entry", t, 1 << rows, 0, 0).due(-1000, "entry", t, -1, 0, 0);
                }
                x.due(-1000, "entry", tables + 1, 0, 0, 0).due(-1000, "entry", 0, 0, 0, 0).due(tables, "count", 6);
                spans.append("span ").append(8 * tables + 8).append(';');
            }
        }
        for (Step step : steps) {
            for (int t = 1; t <= step.tables; t++) {
                for (int[] row : step.after.rows[t]) {
                    boolean empty = row[0] == -1 && row[1] == 0 && row[2] == 0;
                    boolean full = row[0] >= 0 && row[0] < 1 << step.tagBits && row[1] >= -4 && row[1] <= 3
                        && row[2] >= 0 && row[2] <= 3;
                    e.holds(at(step) + ": a ROW is " + Arrays.toString(row), empty || full);
                }
            }
        }
        met("PROVIDER's COUNT ", -4, 3, "");
        met("USE ", 0, 3, " up", " down");
    }

    private void indexes() {
        e.says("III", "Of an ADDRESS a, INDEX in TABLE k: the lowest I bits of a, a / 2 to the I (cut), FOLD of H to I "
            + "bits, k, by exclusive or.");
        int[] spans = Step.spansOf(WIDE);
        for (int rows = 1; rows <= 4; rows++) {
            for (int m : new int[] {0, 1, 41, wideEnd()}) {
                Asked x = wide(rows, 2);
                long past = pastOf(m);
                for (int t = 1; t <= 5; t++) {
                    for (int a = 0; a <= 63; a++) {
                        x.due(Step.index(t, a, past, spans[t], rows), "index", t, a, m);
                    }
                }
            }
        }

        e.says("III", "Its TAG: the lowest W bits of a, FOLD of H to W bits, twice the FOLD of H to W less 1 bits, by "
            + "exclusive or.");
        for (int tag = 2; tag <= 6; tag++) {
            for (int m : new int[] {0, 1, 41, wideEnd()}) {
                Asked x = wide(4, tag);
                long past = pastOf(m);
                for (int t = 1; t <= 5; t++) {
                    for (int a = 0; a <= 63; a++) {
                        x.due(Step.tag(a, past, spans[t], tag), "tag", t, a, m);
                    }
                }
            }
        }
    }

    private void base() {
        e.says("III", "BASE has 16 COUNTS 0 .. 3 (1 at first), by a modulo 16.");
        Asked x = e.of(HEAD);
        for (int i = 0; i < 16; i++) {
            x.due(1, "base", i, 0);
        }
        x.due(-2, "base", 16, 0).due(-2, "base", -1, 0);
        for (int a = 0; a <= 63; a++) {
            x = e.of(HEAD).acts(a, "T");
            for (int i = 0; i < 16; i++) {
                x.due(i == a % 16 ? 2 : 1, "base", i, 1);
            }
        }
        for (Step step : steps) {
            for (int count : step.after.base) {
                e.holds(at(step) + ": COUNT " + count, count >= 0 && count <= 3);
            }
        }

        e.says("III", "BASE says TAKEN from COUNT 2 on, a ROW from 0 on.");
        x = e.of(HEAD).acts(9, "NTTTN");
        int[] counts = {1, 0, 1, 2, 3, 2};
        for (int m = 0; m <= 5; m++) {
            x.due(counts[m], "base", 9, m).due(counts[m] >= 2 ? 1 : 0, "guess", 9, m);
        }
        for (Step step : steps) {
            if (!step.weak()) {
                boolean says = step.says(step.provider());
                e.due(at(step) + ": what PROVIDER says", step.facts[6], says ? 1 : 0);
            }
        }
        met("BASE's COUNT ", 0, 3, "");
        met("PROVIDER's COUNT ", -4, 3, "");
    }

    private void providers() {
        e.says("III", "A TABLE MATCHES, if its ROW at INDEX has that TAG (is not EMPTY).");
        for (Step step : steps) {
            for (int t = 1; t <= step.tables; t++) {
                if (t > step.facts[3]) {
                    e.holds(at(step) + ": TABLE " + t + " matches", !step.matches(t));
                } else if (t == step.facts[3]) {
                    e.holds(at(step) + ": TABLE " + t + " does not match", step.matches(t));
                }
            }
        }
        met("an EMPTY ROW at INDEX", "a TAG that matches", "another TAG at INDEX");

        e.says("III", "PROVIDER: the greatest TABLE that MATCHES, else 0, BASE; ALTERNATE: the greatest one below it that "
            + "does, else 0.");
        for (Step step : steps) {
            e.due(at(step) + ": PROVIDER", step.facts[3], step.provider());
            e.due(at(step) + ": ALTERNATE", step.facts[4], step.alternate());
        }
        met("PROVIDER ", 0, 5, "");
        met("ALTERNATE ", 0, 4, "");
    }

    private void weakAndFirst() {
        e.says("III", "WEAK: PROVIDER is a TABLE, its ROW has COUNT 0 or -1, and USE 0.");
        for (Step step : steps) {
            e.due(at(step) + ": WEAK", step.facts[5], step.weak() ? 1 : 0);
        }
        met("COUNT ", -2, 1, " with USE", " without USE");
        met("PROVIDER 0");

        e.says("III", "FIRST: what PROVIDER says; what ALTERNATE says, if it is WEAK, P has TRUST (4 in it), and TRUST "
            + "(0 .. 15, at first 8) is above 7.");
        for (Step step : steps) {
            e.due(at(step) + ": FIRST", step.facts[6], step.first() ? 1 : 0);
            e.holds(at(step) + ": TRUST", step.after.gauges[0] >= 0 && step.after.gauges[0] <= 15);
        }
        met("TRUST 7 at a WEAK one", "TRUST 8 at a WEAK one", "WEAK, unlike, P without TRUST");
        for (int p = 0; p <= 7; p++) {
            e.of(Programs.head(1, 2, 1, 0, 0, p)).due(8, "gauge", 0, 0);
        }
    }

    private void loopsSay() {
        e.says("IV", "LOOPS (if P has 1 in it): eight ROWS by a modulo 8, each EMPTY (at first, AGE 0), or of an ADDRESS, "
            + "with a LENGTH (or none), a RUN, SURE 0 .. 3, AGE 0 .. 3.");
        Asked x = e.of(Programs.head(1, 2, 1, 0, 0, 7));
        int[] empty = {-1, -1, 0, 0, 0};
        for (int i = 0; i < 8; i++) {
            for (int what = 0; what < 5; what++) {
                x.due(empty[what], "loop", i, what, 0);
            }
        }
        for (int a = 0; a <= 63; a++) {
            x = e.of(Programs.head(1, 2, 1, 0, 0, 1)).acts(a, "T");
            for (int i = 0; i < 8; i++) {
                x.due(i == a % 8 ? a : -1, "loop", i, 0, 1).due(i == a % 8 ? 3 : 0, "loop", i, 4, 1);
            }
        }
        for (Step step : steps) {
            for (int[] row : step.after.loops) {
                boolean isEmpty = row[0] == -1 && row[1] == -1 && row[2] == 0 && row[3] == 0 && row[4] == 0;
                boolean full = row[0] >= 0 && row[1] >= -1 && row[2] >= 0 && row[3] >= 0 && row[3] <= 3 && row[4] >= 0
                    && row[4] <= 3;
                e.holds(at(step) + ": " + Arrays.toString(row), isEmpty || full);
            }
        }

        e.says("IV", "If the ROW is a's and SURE is 3, LOOPS say TAKEN, if RUN is below LENGTH, else not TAKEN.");
        for (Step step : steps) {
            e.due(at(step) + ": LOOPS say it", step.facts[7] == 1 ? 1 : 0, step.loopsSpeak() ? 1 : 0);
            if (step.loopsSpeak()) {
                e.due(at(step) + ": what LOOPS say", step.facts[2], step.loopsSay() ? 1 : 0);
            }
        }
        met("SURE 2, RUN below LENGTH", "SURE 2, RUN at LENGTH", "SURE 3, RUN below LENGTH", "SURE 3, RUN at LENGTH");
        met("SURE of LENGTH 0", "another's ROW of LOOPS, SURE 3");
    }

    private void correctorSays() {
        e.says("IV", "CORRECTOR (2 in it): three ROWS of 16 COUNTS -8 .. 7 (0 at first): of ROW 0 the one at twice (a "
            + "modulo 8), and 1 more, if FIRST is TAKEN; of ROW 1 at (a, the lowest four bits of HISTORY, by exclusive "
            + "or) modulo 16; of ROW 2 at (a, FOLD of 12 to 4 bits, by exclusive or) modulo 16.");
        Asked x = e.of(Programs.head(1, 2, 1, 0, 0, 7));
        for (int row = 0; row < 3; row++) {
            for (int i = 0; i < 16; i++) {
                x.due(0, "corrector", row, i, 0);
            }
        }
        for (Step step : steps) {
            for (int row = 0; row < 3; row++) {
                for (int i = 0; i < 16; i++) {
                    int count = step.after.corrector[row][i];
                    boolean within = count >= -8 && count <= 7;
                    boolean here = i == step.place(row) || count == step.before.corrector[row][i];
                    e.holds(at(step) + ": ROW " + row + " at " + i + " is " + count, within && here);
                }
            }
        }

        e.says("IV", "SUM: of these three, twice the COUNT and 1 each, and 6, if FIRST is TAKEN, else less 6.");
        e.of(HEAD).due(-3, "adds", 0, 0).acts(0, "T").due(9, "adds", 0, 1);
        for (int from = 0; from < steps.size(); from++) {
            sums(from);
        }

        e.says("IV", "Its SIDE: TAKEN, if SUM is above 0.");
        for (Step step : steps) {
            if (step.facts[7] == 2) {
                e.due(at(step) + ": what CORRECTOR says", step.facts[2], step.sum() > 0 ? 1 : 0);
            }
        }
        met("SUM -1", "SUM 1");

        e.says("IV", "CORRECTOR says SIDE, if that is other than FIRST, and SUM (without its sign) is LIMIT (1 .. 15, at "
            + "first 4) or more.");
        for (Step step : steps) {
            if (!step.loopsSpeak()) {
                e.due(at(step) + ": CORRECTOR says it", step.facts[7] == 2 ? 1 : 0, step.correctorSpeaks() ? 1 : 0);
            }
            e.holds(at(step) + ": LIMIT", step.after.gauges[2] >= 1 && step.after.gauges[2] <= 15);
        }
        met("SIDE other than FIRST, SUM is LIMIT and ", -1, 1, ", FIRST TAKEN", ", FIRST not");
        for (int p = 0; p <= 7; p++) {
            e.of(Programs.head(1, 2, 1, 0, 0, p)).due(4, "gauge", 2, 0);
        }
    }

    /** SUM ahead of a BRANCH; an object serves the steps of one scene, 40 at a time. */
    private void sums(int from) {
        Step step = steps.get(from);
        if (step.branch % 40 != 0) {
            return;
        }
        Asked x = e.of(step.text).acts(actsOf(step));
        for (int i = from; i < steps.size() && i < from + 40 && steps.get(i).text.equals(step.text); i++) {
            x.due(steps.get(i).sum(), "adds", steps.get(i).address(), steps.get(i).branch);
        }
    }

    private static int[] actsOf(Step step) {
        for (int i = 0; i < Scenes.TEXTS.length; i++) {
            if (Scenes.TEXTS[i].equals(step.text)) {
                return Scenes.ACTS[i];
            }
        }
        throw new IllegalStateException(step.text);
    }

    private void guesses() {
        e.says("IV", "GUESS: what LOOPS say; if they say nothing, what CORRECTOR says; if that says nothing, FIRST.");
        for (Step step : steps) {
            e.due(at(step) + ": GUESS", step.facts[2], step.guess() ? 1 : 0);
            e.due(at(step) + ": by whom", step.facts[7], step.who());
        }
        met("LOOPS and CORRECTOR say unlike", "GUESS right, FIRST wrong", "GUESS wrong, FIRST right");

        e.says("IV", "What P has not in it says nothing and learns nothing.");
        for (Step step : steps) {
            for (int[] row : step.after.loops) {
                e.holds(at(step) + ": no LOOPS", step.has(1) || row[0] == -1 && row[4] == 0 && step.facts[7] != 1);
            }
            for (int[] row : step.after.corrector) {
                boolean nothing = Arrays.equals(row, new int[16]) && step.after.gauges[2] == 4 && step.facts[7] != 2;
                e.holds(at(step) + ": no CORRECTOR", step.has(2) || nothing);
            }
            e.holds(at(step) + ": no TRUST", step.has(4) || step.after.gauges[0] == 8);
        }
        // By turns: with a part it is heard in the end, without it it is not.
        for (int p = 0; p <= 7; p++) {
            Asked x = e.of(Programs.head(1, 2, 1, 0, 0, p)).acts(3, "TNTNTNTNTNTNTNTN");
            e.holds("LOOPS are heard", x.call("said", 1) > 0 == (p % 2 == 1));
            e.holds("CORRECTOR is heard", x.call("said", 2) > 0 == (p / 2 % 2 == 1));
        }
    }

    private void loopsLearn() {
        e.says("V", "1 LOOPS: the ROW is a's: TAKEN: RUN is 1 more; if there is a LENGTH, and it is above that then, there "
            + "is none, SURE 0; if RUN is 60, the ROW is EMPTY, AGE 0.");
        for (Step step : steps) {
            if (step.has(1) && step.isOwn() && step.taken()) {
                int[] row = step.loop(step.before).clone();
                row[2]++;
                if (row[1] != -1 && row[2] > row[1]) {
                    row[1] = -1;
                    row[3] = 0;
                }
                loopIs(step, row[2] == 60 ? new int[] {-1, -1, 0, 0, 0} : row);
            }
        }
        met("RUN comes to 59", "RUN comes to 60", "RUN comes to LENGTH");
        met("RUN above LENGTH, SURE ", 0, 3, "");
        Asked x = e.of(Programs.head(1, 2, 1, 0, 0, 1) + "same 0 0 0;");
        x.due(59, "loop", 0, 2, 60).due(3, "loop", 0, 4, 60).due(0, "loop", 0, 0, 60);
        x.due(0, "loop", 0, 2, 61).due(0, "loop", 0, 4, 61).due(-1, "loop", 0, 0, 61).due(-1, "loop", 0, 1, 61);

        e.says("V", "Not TAKEN: if there is a LENGTH, and RUN is that, SURE is 1 more (3 at most), else LENGTH is RUN, SURE "
            + "0; RUN is 0 then.");
        for (Step step : steps) {
            if (step.has(1) && step.isOwn() && !step.taken()) {
                int[] row = step.loop(step.before).clone();
                if (row[1] != -1 && row[1] == row[2]) {
                    row[3] = Math.min(3, row[3] + 1);
                } else {
                    row[1] = row[2];
                    row[3] = 0;
                }
                row[2] = 0;
                loopIs(step, row);
            }
        }
        met("not TAKEN without LENGTH", "LENGTH 59");
        met("not TAKEN, RUN is LENGTH, SURE ", 0, 3, "");
        met("not TAKEN, RUN is not LENGTH, SURE ", 0, 3, "");

        e.says("V", "The ROW is not a's, and GUESS was wrong: if AGE is above 0, it is 1 less; else the ROW is a's, without "
            + "LENGTH, RUN 0, SURE 0, AGE 3.");
        for (Step step : steps) {
            if (step.has(1) && !step.isOwn()) {
                int[] row = step.loop(step.before).clone();
                if (step.facts[1] == step.facts[2]) {
                    loopIs(step, row);
                } else if (row[4] > 0) {
                    row[4]--;
                    loopIs(step, row);
                } else {
                    loopIs(step, new int[] {step.address(), -1, 0, 0, 3});
                }
            }
        }
        met("another's ROW of LOOPS, wrong, AGE ", 0, 3, "");
        met("another's ROW of LOOPS, right, AGE ", 0, 3, "");
        met("EMPTY ROW of LOOPS, wrong, AGE 0", "EMPTY ROW of LOOPS, right, AGE 0");
    }

    /** The ROW of a step's ADDRESS behind it; the others stay. */
    private void loopIs(Step step, int[] row) {
        for (int i = 0; i < 8; i++) {
            int[] want = i == step.address() % 8 ? row : step.before.loops[i];
            e.holds(at(step) + ": ROW " + i + " of LOOPS is " + Arrays.toString(step.after.loops[i]),
                Arrays.equals(want, step.after.loops[i]));
        }
    }

    private static int within(int least, int most, int value) {
        return Math.max(least, Math.min(most, value));
    }

    private void correctorLearns() {
        e.says("V", "2 CORRECTOR: if SIDE is other than FIRST: LIMIT is 1 less, if SIDE was right, else 1 more (within 1 .. "
            + "15).");
        for (Step step : steps) {
            int limit = step.before.gauges[2];
            if (step.has(2) && step.side() != step.first()) {
                limit = within(1, 15, limit + (step.side() == step.taken() ? -1 : 1));
            }
            e.due(at(step) + ": LIMIT", step.after.gauges[2], limit);
        }
        met("LIMIT 1 less", "LIMIT 1 more", "LIMIT 2 less", "LIMIT 2 more");
        met("LIMIT 14 less", "LIMIT 14 more", "LIMIT 15 less", "LIMIT 15 more");

        e.says("V", "If SIDE was wrong, or SUM (without its sign) is below 12: the three COUNTS go 1 up, if TAKEN, else down "
            + "(within -8 .. 7).");
        for (Step step : steps) {
            boolean learns = step.has(2) && (step.side() != step.taken() || step.size() < 12);
            for (int row = 0; row < 3; row++) {
                int count = step.before.corrector[row][step.place(row)];
                if (learns) {
                    count = within(-8, 7, count + (step.taken() ? 1 : -1));
                }
                e.due(at(step) + ": ROW " + row, step.after.corrector[row][step.place(row)], count);
            }
        }
        for (int size = 11; size <= 13; size += 2) {
            met("SUM's size " + size + ", SIDE right", "SUM's size " + size + ", SIDE wrong");
        }
        for (int row = 0; row < 3; row++) {
            met("ROW " + row + " of CORRECTOR, COUNT ", -8, -7, " up", " down");
            met("ROW " + row + " of CORRECTOR, COUNT ", 6, 7, " up", " down");
        }
    }

    private void trustAndUse() {
        e.says("V", "3 TRUST (if P has it): if WEAK, and PROVIDER and ALTERNATE say unlike: 1 more, if ALTERNATE was right, "
            + "else 1 less (within 0 .. 15).");
        for (Step step : steps) {
            int trust = step.before.gauges[0];
            if (step.has(4) && step.weak() && step.says(step.provider()) != step.says(step.alternate())) {
                trust = within(0, 15, trust + (step.says(step.alternate()) == step.taken() ? 1 : -1));
            }
            e.due(at(step) + ": TRUST", step.after.gauges[0], trust);
        }
        met("TRUST ", 0, 1, " up", " down");
        met("TRUST ", 14, 15, " up", " down");
        met("WEAK, unlike, P without TRUST");

        e.says("V", "4 USE of PROVIDER's ROW, if it is a TABLE and says other than ALTERNATE: 1 more, if it was right, else "
            + "1 less (within 0 .. 3).");
        for (Step step : steps) {
            if (step.provider() > 0 && !step.halves()) {
                e.due(at(step) + ": USE", step.row(step.after, step.provider())[2], useBehind(step));
            }
        }
        met("USE ", 0, 3, " up", " down");
        met("PROVIDER says as ALTERNATE");
    }

    private static int useBehind(Step step) {
        int use = step.row(step.before, step.provider())[2];
        if (step.says(step.provider()) != step.says(step.alternate())) {
            use = within(0, 3, use + (step.says(step.provider()) == step.taken() ? 1 : -1));
        }
        return use;
    }

    private void counts() {
        e.says("V", "5 COUNT of PROVIDER goes 1 up, if TAKEN, else down (within its bounds); if WEAK (as it was for its "
            + "GUESS), that of ALTERNATE, too.");
        for (Step step : steps) {
            for (int i = 0; i < 16; i++) {
                boolean moves = i == step.address() % 16
                    && (step.provider() == 0 || step.weak() && step.alternate() == 0);
                int count = step.before.base[i];
                e.due(at(step) + ": BASE " + i, step.after.base[i],
                    moves ? within(0, 3, count + (step.taken() ? 1 : -1)) : count);
            }
            for (int t = 1; t <= step.provider(); t++) {
                boolean moves = t == step.provider() || step.weak() && t == step.alternate();
                for (int i = 0; i < step.before.rows[t].length; i++) {
                    int count = step.before.rows[t][i][1];
                    e.due(at(step) + ": TABLE " + t + ", ROW " + i, step.after.rows[t][i][1], moves && i == step.index(t)
                        ? within(-4, 3, count + (step.taken() ? 1 : -1)) : count);
                }
            }
        }
        met("COUNT ", -4, 3, " up", " down");
        met("BASE's COUNT ", 0, 3, " up", " down");
        met("WEAK, BASE's COUNT ", 0, 3, " up", " down");
        met("WEAK, ALTERNATE's COUNT -4 up", "WEAK, ALTERNATE's COUNT -4 down", "WEAK, ALTERNATE's COUNT 3 up",
            "WEAK, ALTERNATE's COUNT 3 down", "not WEAK, ALTERNATE is BASE", "not WEAK, ALTERNATE is a TABLE");
    }

    private void taking() {
        e.says("V", "6 If FIRST was wrong, and there are TABLES above PROVIDER: the least of these whose ROW at INDEX is "
            + "EMPTY or has USE 0: the ROW has the TAG now, COUNT 0, if TAKEN, else -1, USE 0.");
        for (Step step : steps) {
            if (step.strains()) {
                continue;
            }
            boolean takes = step.first() != step.taken() && step.tablesAbove();
            for (int t = step.provider() + 1; t <= step.tables; t++) {
                for (int i = 0; i < step.before.rows[t].length; i++) {
                    boolean here = takes && t == step.toTake() && i == step.index(t);
                    int[] row = here ? new int[] {step.tag(t), step.taken() ? 0 : -1, 0} : step.before.rows[t][i];
                    e.holds(at(step) + ": TABLE " + t + ", ROW " + i, Arrays.equals(row, step.after.rows[t][i]));
                }
            }
            e.due(at(step) + ": STRAIN", step.after.gauges[1], step.before.gauges[1]);
            e.due(at(step) + ": halved", step.after.gauges[3], step.before.gauges[3]);
        }
        met("no TABLES", "no TABLES above PROVIDER", "an EMPTY ROW is taken", "a ROW of USE 0 is taken");
        met("the least above PROVIDER has USE", "not the greatest is taken", "all wrong", "all right");
        met("GUESS right, FIRST wrong", "GUESS wrong, FIRST right");

        e.says("V", "If there is none: USE of each of these ROWS is 1 less, STRAIN (at first 0) 1 more; if it is A: USE of "
            + "all ROWS of all TABLES is halved (cut), STRAIN 0: they AGE.");
        e.of(HEAD).due(0, "gauge", 1, 0).due(0, "gauge", 3, 0);
        for (Step step : steps) {
            if (step.strains()) {
                strained(step);
            }
            e.holds(at(step) + ": STRAIN is below A", step.after.gauges[1] >= 0 && step.after.gauges[1] < step.age);
        }
        met("they AGE at ", 1, 9, "");
        met("STRAIN below ", 2, 9, "");
        met("USE ", 0, 3, " is halved");
        met("USE ", 1, 3, " is halved, in the way");
        met("", 1, 5, " in the way");

        e.says("V", "7 HISTORY.");
        for (Step step : steps) {
            if (step.branch % 16 == 0) {
                Asked x = e.of(step.text).acts(actsOf(step));
                long mask = (1L << 30) - 1;
                x.due(step.past & mask, "history", step.branch, 30);
                x.due((step.past << 1 | step.facts[1]) & mask, "history", step.branch + 1, 30);
            }
        }

        e.says("V", "Behind each BRANCH all learn by what it was, by INDEXES, TAGS, places, what was said as they were for "
            + "its GUESS, in this order.");
        // Asked for another ADDRESS in between, it learns by what was said of the BRANCH.
        Asked quiet = e.of(Scenes.TEXTS[0]).acts(Scenes.ACTS[0]);
        Asked asked = e.of(Scenes.TEXTS[0]);
        for (int one : Scenes.ACTS[0]) {
            long moment = asked.call("count", 8) + asked.call("count", 9);
            asked.call("guess", 63 - one / 2, moment);
            asked.call("adds", 7, 0);
            asked.call("meets", one / 2, one % 2);
        }
        long end = quiet.call("count", 8) + 40;
        for (int i = 0; i < 16; i++) {
            e.due("BASE " + i, asked.call("base", i, end), quiet.call("base", i, end));
            for (int row = 0; row < 3; row++) {
                e.due("ROW " + row, asked.call("corrector", row, i, end), quiet.call("corrector", row, i, end));
            }
        }
    }

    private void strained(Step step) {
        for (int t = 1; t <= step.tables; t++) {
            for (int i = 0; i < step.before.rows[t].length; i++) {
                int[] old = step.before.rows[t][i];
                int use = old[2];
                if (t > step.provider() && i == step.index(t)) {
                    use--;
                } else if (t == step.provider() && i == step.index(t)) {
                    use = useBehind(step);
                }
                int[] row = step.after.rows[t][i];
                e.due(at(step) + ": USE in TABLE " + t + ", ROW " + i, row[2], step.halves() ? use / 2 : use);
                e.due(at(step) + ": TAG in TABLE " + t + ", ROW " + i, row[0], old[0]);
            }
        }
        e.due(at(step) + ": STRAIN", step.after.gauges[1], step.halves() ? 0 : step.before.gauges[1] + 1);
        e.due(at(step) + ": halved", step.after.gauges[3], step.before.gauges[3] + (step.halves() ? 1 : 0));
    }
}
