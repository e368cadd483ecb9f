import java.util.ArrayList;
import java.util.List;
import java.util.Set;
import java.util.TreeSet;

/** A BRANCH, and all that the face tells of the GUESSER ahead of it and behind it. */
final class Step {
    /** The GUESSER at a MOMENT. */
    static final class Snap {
        /** By TABLE (0: none), ROW, and what: TAG (-1: EMPTY), COUNT, USE. */
        final int[][][] rows;
        final int[] base = new int[16];
        /** TRUST, STRAIN, LIMIT, how often USES were halved. */
        final int[] gauges = new int[4];
        /** By ROW: ADDRESS, LENGTH, RUN, SURE, AGE. */
        final int[][] loops = new int[8][5];
        final int[][] corrector = new int[3][16];

        Snap(Asked x, int moment, int tables, int rowsEach) {
            rows = new int[tables + 1][rowsEach][3];
            for (int t = 1; t <= tables; t++) {
                for (int i = 0; i < rowsEach; i++) {
                    for (int what = 0; what < 3; what++) {
                        rows[t][i][what] = (int) x.call("entry", t, i, what, moment);
                    }
                }
            }
            for (int i = 0; i < 16; i++) {
                base[i] = (int) x.call("base", i, moment);
                for (int row = 0; row < 3; row++) {
                    corrector[row][i] = (int) x.call("corrector", row, i, moment);
                }
            }
            for (int what = 0; what < 4; what++) {
                gauges[what] = (int) x.call("gauge", what, moment);
            }
            for (int i = 0; i < 8; i++) {
                for (int what = 0; what < 5; what++) {
                    loops[i][what] = (int) x.call("loop", i, what, moment);
                }
            }
        }
    }

    final String text;
    final int rowBits;
    final int tagBits;
    final int age;
    final int parts;
    final int tables;
    /** By TABLE; 0: none. */
    final int[] spans;
    final int branch;
    final long past;
    final Snap before;
    final Snap after;
    /** As branch() tells them. */
    final int[] facts;

    private Step(String text, int[] head, int[] spans, int branch, long past, Snap[] snaps, int[] facts) {
        this.text = text;
        rowBits = head[0];
        tagBits = head[1];
        age = head[2];
        parts = head[5];
        tables = spans.length - 1;
        this.spans = spans;
        this.branch = branch;
        this.past = past;
        before = snaps[branch];
        after = snaps[branch + 1];
        this.facts = facts;
    }

    /** Of a PROGRAM and acts (each twice the ADDRESS, and 1 more, if TAKEN): a step for each BRANCH. */
    static List<Step> of(Edges e, String text, int[] acts) {
        int[] spans = spansOf(text);
        int[] head = new int[6];
        Asked first = e.of(text).acts(acts);
        for (int i = 0; i < 6; i++) {
            head[i] = (int) first.call("count", i);
        }
        int branches = (int) (first.call("count", 8) + first.call("count", 9));
        Snap[] snaps = new Snap[branches + 1];
        List<Step> steps = new ArrayList<>();
        long past = 0;
        for (int m = 0; m <= branches; m++) {
            // An object is good for 512 calls: each MOMENT has one of its own.
            Asked x = e.of(text).acts(acts);
            snaps[m] = new Snap(x, m, spans.length - 1, 1 << head[0]);
        }
        for (int b = 0; b < branches; b++) {
            int[] facts = new int[9];
            Asked x = b % 40 == 0 ? e.of(text).acts(acts) : first;
            first = x;
            for (int what = 0; what < 9; what++) {
                facts[what] = (int) x.call("branch", b, what);
            }
            steps.add(new Step(text, head, spans, b, past, snaps, facts));
            past = past << 1 | facts[1];
        }
        return steps;
    }

    static int[] spansOf(String text) {
        List<Integer> spans = new ArrayList<>(List.of(0));
        for (String line : text.split(";")) {
            if (line.strip().startsWith("span ")) {
                spans.add(Integer.parseInt(line.strip().substring(5)));
            }
        }
        return spans.stream().mapToInt(Integer::intValue).toArray();
    }

    int address() {
        return facts[0];
    }

    boolean taken() {
        return facts[1] == 1;
    }

    boolean has(int part) {
        return (parts & part) != 0;
    }

    /** Bit by bit, as the document says it. */
    static int fold(long past, int span, int n) {
        int folded = 0;
        for (int i = 0; i < span; i++) {
            if ((past >> i & 1) == 1) {
                folded ^= 1 << i % n;
            }
        }
        return folded;
    }

    static int index(int table, int address, long past, int span, int rowBits) {
        int mask = (1 << rowBits) - 1;
        return (address & mask ^ address / (1 << rowBits) ^ fold(past, span, rowBits) ^ table) & mask;
    }

    static int tag(int address, long past, int span, int tagBits) {
        return address & (1 << tagBits) - 1 ^ fold(past, span, tagBits) ^ 2 * fold(past, span, tagBits - 1);
    }

    int index(int table) {
        return index(table, address(), past, spans[table], rowBits);
    }

    int tag(int table) {
        return tag(address(), past, spans[table], tagBits);
    }

    int[] row(Snap snap, int table) {
        return snap.rows[table][index(table)];
    }

    boolean matches(int table) {
        return row(before, table)[0] == tag(table);
    }

    /** The greatest TABLE below one that MATCHES, else 0. */
    int greatestBelow(int table) {
        for (int t = table - 1; t >= 1; t--) {
            if (matches(t)) {
                return t;
            }
        }
        return 0;
    }

    int provider() {
        return greatestBelow(tables + 1);
    }

    int alternate() {
        return greatestBelow(provider());
    }

    boolean says(int table) {
        return table == 0 ? before.base[address() % 16] >= 2 : row(before, table)[1] >= 0;
    }

    boolean weak() {
        if (provider() == 0) {
            return false;
        }
        int[] row = row(before, provider());
        return (row[1] == 0 || row[1] == -1) && row[2] == 0;
    }

    boolean first() {
        boolean trusts = weak() && has(4) && before.gauges[0] > 7;
        return says(trusts ? alternate() : provider());
    }

    int[] loop(Snap snap) {
        return snap.loops[address() % 8];
    }

    boolean isOwn() {
        return loop(before)[0] == address();
    }

    boolean loopsSpeak() {
        return has(1) && isOwn() && loop(before)[3] == 3;
    }

    boolean loopsSay() {
        return loop(before)[2] < loop(before)[1];
    }

    int place(int row) {
        if (row == 0) {
            return 2 * (address() % 8) + (first() ? 1 : 0);
        }
        return (address() ^ (row == 1 ? (int) (past & 15) : fold(past, 12, 4))) % 16;
    }

    int sum() {
        int sum = first() ? 6 : -6;
        for (int row = 0; row < 3; row++) {
            sum += 2 * before.corrector[row][place(row)] + 1;
        }
        return sum;
    }

    boolean side() {
        return sum() > 0;
    }

    int size() {
        return sum() < 0 ? -sum() : sum();
    }

    boolean correctorSpeaks() {
        return has(2) && side() != first() && size() >= before.gauges[2];
    }

    int who() {
        return loopsSpeak() ? 1 : correctorSpeaks() ? 2 : 0;
    }

    boolean guess() {
        return loopsSpeak() ? loopsSay() : correctorSpeaks() ? side() : first();
    }

    boolean tablesAbove() {
        return provider() < tables;
    }

    /** The least TABLE above PROVIDER whose ROW is EMPTY or has USE 0; 0: there is none. */
    int toTake() {
        for (int t = provider() + 1; t <= tables; t++) {
            if (row(before, t)[0] == -1 || row(before, t)[2] == 0) {
                return t;
            }
        }
        return 0;
    }

    boolean strains() {
        return first() != taken() && tablesAbove() && toTake() == 0;
    }

    boolean halves() {
        return strains() && before.gauges[1] + 1 == age;
    }

    /** The boundary cases that this step is one of. */
    Set<String> cases() {
        Set<String> cases = new TreeSet<>();
        casesOfTables(cases);
        casesOfTrust(cases);
        if (has(1)) {
            casesOfLoops(cases);
        }
        if (has(2)) {
            casesOfCorrector(cases);
        }
        casesOfLearning(cases);
        casesOfTaking(cases);
        return cases;
    }

    private void casesOfTables(Set<String> cases) {
        for (int t = 1; t <= tables; t++) {
            cases.add(row(before, t)[0] == -1 ? "an EMPTY ROW at INDEX"
                : matches(t) ? "a TAG that matches" : "another TAG at INDEX");
        }
        cases.add("PROVIDER " + provider());
        if (provider() > 0) {
            cases.add("ALTERNATE " + alternate());
            int[] row = row(before, provider());
            cases.add("PROVIDER's COUNT " + row[1]);
            if (row[1] >= -2 && row[1] <= 1) {
                cases.add("COUNT " + row[1] + (row[2] == 0 ? " without" : " with") + " USE");
            }
        } else {
            cases.add("BASE's COUNT " + before.base[address() % 16]);
        }
    }

    private void casesOfTrust(Set<String> cases) {
        if (!weak() || says(provider()) == says(alternate())) {
            return;
        }
        int trust = before.gauges[0];
        if (!has(4)) {
            cases.add("WEAK, unlike, P without TRUST");
            return;
        }
        boolean up = says(alternate()) == taken();
        if (trust == 7 || trust == 8) {
            cases.add("TRUST " + trust + " at a WEAK one");
        }
        if (trust <= 1 || trust >= 14) {
            cases.add("TRUST " + trust + (up ? " up" : " down"));
        }
    }

    private void casesOfLoops(Set<String> cases) {
        int[] row = loop(before);
        if (!isOwn()) {
            boolean wrong = guess() != taken();
            cases.add((row[0] == -1 ? "EMPTY ROW of LOOPS, " : "another's ROW of LOOPS, ")
                + (wrong ? "wrong, AGE " : "right, AGE ") + row[4]);
            if (row[3] == 3) {
                cases.add("another's ROW of LOOPS, SURE 3");
            }
            return;
        }
        String sure = "SURE " + row[3];
        if (row[1] != -1 && row[3] >= 2) {
            cases.add(sure + (row[2] < row[1] ? ", RUN below LENGTH" : ", RUN at LENGTH"));
        }
        if (row[3] == 3 && row[1] == 0) {
            cases.add("SURE of LENGTH 0");
        }
        if (taken()) {
            if (row[1] != -1 && row[2] + 1 > row[1]) {
                cases.add("RUN above LENGTH, " + sure);
            }
            if (row[1] != -1 && row[2] + 1 == row[1]) {
                cases.add("RUN comes to LENGTH");
            }
            if (row[2] >= 58) {
                cases.add("RUN comes to " + (row[2] + 1));
            }
        } else if (row[1] == -1) {
            cases.add("not TAKEN without LENGTH");
            if (row[2] == 59) {
                cases.add("LENGTH 59");
            }
        } else {
            cases.add("not TAKEN, RUN " + (row[1] == row[2] ? "is LENGTH, " : "is not LENGTH, ") + sure);
        }
    }

    private void casesOfCorrector(Set<String> cases) {
        int limit = before.gauges[2];
        if (side() != first()) {
            boolean right = side() == taken();
            if (Math.abs(size() - limit) <= 1) {
                cases.add("SIDE other than FIRST, SUM is LIMIT and " + (size() - limit)
                    + (first() ? ", FIRST TAKEN" : ", FIRST not"));
            }
            if (limit <= 2 || limit >= 14) {
                cases.add("LIMIT " + limit + (right ? " less" : " more"));
            }
        }
        if (size() == 1) {
            cases.add("SUM " + sum());
        }
        if (size() >= 9 && size() <= 15) {
            cases.add("SUM's size " + size() + (side() == taken() ? ", SIDE right" : ", SIDE wrong"));
        }
        if (loopsSpeak() && correctorSpeaks() && loopsSay() != side()) {
            cases.add("LOOPS and CORRECTOR say unlike");
        }
        if (side() != taken() || size() < 12) {
            for (int row = 0; row < 3; row++) {
                int count = before.corrector[row][place(row)];
                if (count <= -7 || count >= 6) {
                    cases.add("ROW " + row + " of CORRECTOR, COUNT " + count + (taken() ? " up" : " down"));
                }
            }
        }
    }

    private void casesOfLearning(Set<String> cases) {
        String way = taken() ? " up" : " down";
        if (provider() == 0) {
            cases.add("BASE's COUNT " + before.base[address() % 16] + way);
            return;
        }
        int[] row = row(before, provider());
        cases.add("COUNT " + row[1] + way);
        if (says(provider()) != says(alternate())) {
            cases.add("USE " + row[2] + (says(provider()) == taken() ? " up" : " down"));
        } else {
            cases.add("PROVIDER says as ALTERNATE");
        }
        if (weak() && alternate() == 0) {
            cases.add("WEAK, BASE's COUNT " + before.base[address() % 16] + way);
        } else if (weak()) {
            int count = row(before, alternate())[1];
            cases.add("WEAK, ALTERNATE is a TABLE");
            if (count == -4 || count == 3) {
                cases.add("WEAK, ALTERNATE's COUNT " + count + way);
            }
        } else {
            cases.add(alternate() == 0 ? "not WEAK, ALTERNATE is BASE" : "not WEAK, ALTERNATE is a TABLE");
        }
    }

    private void casesOfTaking(Set<String> cases) {
        if (first() == taken()) {
            cases.add(guess() == taken() ? "all right" : "GUESS wrong, FIRST right");
            return;
        }
        cases.add(guess() == taken() ? "GUESS right, FIRST wrong" : "all wrong");
        if (!tablesAbove()) {
            cases.add(tables == 0 ? "no TABLES" : "no TABLES above PROVIDER");
        } else if (!strains()) {
            cases.add(row(before, toTake())[0] == -1 ? "an EMPTY ROW is taken" : "a ROW of USE 0 is taken");
            if (toTake() > provider() + 1) {
                cases.add("the least above PROVIDER has USE");
            }
            if (toTake() < tables) {
                cases.add("not the greatest is taken");
            }
        } else {
            cases.add(halves() ? "they AGE at " + age : "STRAIN below " + age);
            cases.add(tables - provider() + " in the way");
            for (int t = 1; halves() && t <= tables; t++) {
                for (int i = 0; i < before.rows[t].length; i++) {
                    boolean inTheWay = t > provider() && i == index(t);
                    cases.add("USE " + before.rows[t][i][2] + " is halved" + (inTheWay ? ", in the way" : ""));
                }
            }
        }
    }
}
