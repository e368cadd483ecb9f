import java.util.ArrayList;
import java.util.Arrays;
import java.util.List;
import java.util.TreeMap;

/**
 * The document told a second time, as literally as can be: nothing is kept but what was told (and the latest
 * thing that was worked out from it); every answer is worked out from the start. The class is held against it.
 */
public final class Model {
    private String tape = "";
    private List<String[]> program = new ArrayList<>();
    private List<int[]> acts = new ArrayList<>();
    private int fault = 0;
    private int faultPlace = -1;
    @SuppressWarnings({"unchecked", "rawtypes"})
    private final List<Object[]> images = new ArrayList<>(Arrays.asList(null, null, null));
    private final long[][] rows = new long[4][];
    private final int[] widths = new int[4];

    // ------------------------------------------------------------------ TOKENS and FAULTS

    private static final class Token {
        String text;
        int place;
    }

    private static final class Fault extends RuntimeException {
        private static final long serialVersionUID = 1L;
        final int what;
        final int place;

        Fault(int what, int place) {
            this.what = what;
            this.place = place;
        }
    }

    private static List<Token> tokens(String text) {
        List<Token> tokens = new ArrayList<>();
        int i = 0;
        while (i < text.length()) {
            char c = text.charAt(i);
            if (c == 32 || c == 10) {
                i++;
                continue;
            }
            Token token = new Token();
            token.place = i;
            int j = i + 1;
            if (c >= 'a' && c <= 'z') {
                while (j < text.length() && text.charAt(j) >= 'a' && text.charAt(j) <= 'z') {
                    j++;
                }
            } else if (c >= '0' && c <= '9') {
                while (j < text.length() && text.charAt(j) >= '0' && text.charAt(j) <= '9') {
                    j++;
                }
            }
            token.text = text.substring(i, j);
            tokens.add(token);
            i = j;
        }
        Token end = new Token();
        end.text = "";
        end.place = text.length();
        tokens.add(end);
        return tokens;
    }

    private static final String[][] FORMS = {
        {"put", "R", "N"}, {"add", "R", "N"}, {"take", "R", "N"}, {"copy", "R", "R"}, {"sum", "R", "R"},
        {"less", "R", "R"}, {"below", "R", "R", "L"}, {"same", "R", "R", "L"}, {"odd", "R", "L"}, {"go", "L"},
        {"stop"}
    };

    private static List<String[]> parse(String text) {
        List<Token> tokens = tokens(text);
        List<String[]> lines = new ArrayList<>();
        int at = 0;
        int spans = 0;
        int ops = 0;
        int lastSpan = 0;
        while (!tokens.get(at).text.isEmpty()) {
            Token word = tokens.get(at);
            String[] shape = null;
            if (word.text.equals("guesser")) {
                if (!lines.isEmpty()) {
                    throw new Fault(1, word.place);
                }
                shape = "guesser rows 1-4 tag 2-6 age 1-9 cost 0-20 deep 0-9 parts 0-7".split(" ");
            } else if (lines.isEmpty()) {
                throw new Fault(1, word.place);
            } else if (word.text.equals("span")) {
                if (ops > 0) {
                    throw new Fault(1, word.place);
                }
                if (++spans == 6) {
                    throw new Fault(3, word.place);
                }
                shape = ("span " + (lastSpan + 1) + "-40").split(" ");
            } else {
                for (String[] form : FORMS) {
                    if (form[0].equals(word.text)) {
                        shape = String.join(" ", form).replace("R", "0-7").replace("N", "0-999")
                            .replace("L", "0-39").split(" ");
                    }
                }
                if (shape == null) {
                    throw new Fault(1, word.place);
                }
                if (++ops == 41) {
                    throw new Fault(3, word.place);
                }
            }
            List<String> line = new ArrayList<>();
            for (String part : shape) {
                Token token = tokens.get(at);
                if (part.contains("-")) {
                    if (token.text.isEmpty() || !Character.isDigit(token.text.charAt(0)) || token.text.charAt(0) > 127) {
                        throw new Fault(1, token.place);
                    }
                    java.math.BigInteger value = new java.math.BigInteger(token.text);
                    java.math.BigInteger low = new java.math.BigInteger(part.split("-")[0]);
                    java.math.BigInteger high = new java.math.BigInteger(part.split("-")[1]);
                    if (value.compareTo(low) < 0 || value.compareTo(high) > 0) {
                        throw new Fault(2, token.place);
                    }
                    line.add(value.toString());
                } else {
                    if (!token.text.equals(part)) {
                        throw new Fault(1, token.place);
                    }
                    line.add(part);
                }
                at++;
            }
            if (!tokens.get(at).text.equals(";")) {
                throw new Fault(1, tokens.get(at).place);
            }
            at++;
            if (line.get(0).equals("span")) {
                lastSpan = Integer.parseInt(line.get(1));
            }
            lines.add(line.toArray(new String[0]));
        }
        return lines;
    }

    // ------------------------------------------------------------------ what the PROGRAM tells

    private boolean none() {
        return program.isEmpty();
    }

    private int head(int i) {
        return none() ? 0 : Integer.parseInt(program.get(0)[2 + 2 * i]);
    }

    private List<Integer> spans() {
        List<Integer> spans = new ArrayList<>();
        for (String[] line : program) {
            if (line[0].equals("span")) {
                spans.add(Integer.parseInt(line[1]));
            }
        }
        return spans;
    }

    private List<String[]> ops() {
        List<String[]> ops = new ArrayList<>();
        for (String[] line : program) {
            if (!line[0].equals("span") && !line[0].equals("guesser")) {
                ops.add(line);
            }
        }
        return ops;
    }

    // ------------------------------------------------------------------ RUN

    private static final class Ran {
        final List<int[]> registers = new ArrayList<>();
        final List<Integer> nexts = new ArrayList<>();
        /** ADDRESS, TAKEN, STEP ahead of it. */
        final List<int[]> branches = new ArrayList<>();
        int why;
    }

    private static boolean isBranch(String[] op) {
        return op[0].equals("below") || op[0].equals("same") || op[0].equals("odd");
    }

    /** The next OP; the registers change. */
    private static int does(String[] op, int number, int[] r) {
        int[] n = new int[op.length];
        for (int i = 1; i < op.length; i++) {
            n[i] = Integer.parseInt(op[i]);
        }
        switch (op[0]) {
            case "put": r[n[1]] = n[2]; break;
            case "add": r[n[1]] = Math.floorMod(r[n[1]] + n[2], 1000); break;
            case "take": r[n[1]] = Math.floorMod(r[n[1]] - n[2], 1000); break;
            case "copy": r[n[1]] = r[n[2]]; break;
            case "sum": r[n[1]] = Math.floorMod(r[n[1]] + r[n[2]], 1000); break;
            case "less": r[n[1]] = Math.floorMod(r[n[1]] - r[n[2]], 1000); break;
            case "go": return n[1];
            case "below": if (r[n[1]] < r[n[2]]) return n[3]; break;
            case "same": if (r[n[1]] == r[n[2]]) return n[3]; break;
            case "odd": if (r[n[1]] % 2 != 0) return n[2]; break;
            default: throw new IllegalStateException(op[0]);
        }
        return number + 1;
    }

    private List<String[]> ranOf;
    private Ran ranLast;

    private Ran ran() {
        if (ranOf != program) {
            ranLast = runOnce();
            ranOf = program;
        }
        return ranLast;
    }

    private Ran runOnce() {
        Ran ran = new Ran();
        List<String[]> ops = ops();
        int[] r = new int[8];
        int next = 0;
        while (true) {
            ran.registers.add(r.clone());
            ran.nexts.add(next);
            int done = ran.nexts.size() - 1;
            if (done == 200) {
                ran.why = 3;
                return ran;
            }
            if (next >= ops.size()) {
                ran.why = 2;
                return ran;
            }
            String[] op = ops.get(next);
            if (op[0].equals("stop")) {
                ran.why = 1;
                return ran;
            }
            int from = next;
            next = does(op, from, r);
            if (isBranch(op)) {
                boolean taken;
                int a = r[Integer.parseInt(op[1])];
                int b = r[Integer.parseInt(op[2]) % 8];
                if (op[0].equals("odd")) {
                    taken = a % 2 == 1;
                } else {
                    taken = op[0].equals("below") ? a < b : a == b;
                }
                ran.branches.add(new int[] {from, taken ? 1 : 0, done});
            }
        }
    }

    /** Number of OPS done on a WRONG WAY, then the registers. */
    private int[] wrongWay(int[] branch) {
        List<String[]> ops = ops();
        String[] op = ops.get(branch[0]);
        int[] r = ran().registers.get(branch[2]).clone();
        int next = branch[1] == 1 ? branch[0] + 1 : Integer.parseInt(op[op.length - 1]);
        int done = 0;
        while (done < head(4) && next < ops.size() && !isBranch(ops.get(next)) && !ops.get(next)[0].equals("stop")) {
            next = does(ops.get(next), next, r);
            done++;
        }
        int[] answer = new int[9];
        answer[0] = done;
        System.arraycopy(r, 0, answer, 1, 8);
        return answer;
    }

    /** ADDRESS, TAKEN, STEP ahead of it (or -1): of RUN, then of acts. */
    private List<int[]> branches() {
        List<int[]> all = new ArrayList<>();
        if (!none()) {
            all.addAll(ran().branches);
            for (int[] act : acts) {
                all.add(new int[] {act[0], act[1], -1});
            }
        }
        return all;
    }

    // ------------------------------------------------------------------ the GUESSER

    private static final class Row {
        int tag;
        int count;
        int use;
    }

    private static final class LoopRow {
        int address = -1;
        Integer length = null;
        int run = 0;
        int sure = 0;
        int age = 0;
    }

    private static int fold(List<Integer> history, int span, int n) {
        int[] bits = new int[n];
        for (int i = 0; i < span; i++) {
            int bit = i < history.size() ? history.get(history.size() - 1 - i) : 0;
            bits[i % n] ^= bit;
        }
        int fold = 0;
        for (int i = 0; i < n; i++) {
            fold += bits[i] << i;
        }
        return fold;
    }

    private static final class Guesser {
        int rowBits;
        int tagBits;
        int age;
        int parts;
        /** Spans by TABLE number; a TABLE that is left out is not in it. */
        final TreeMap<Integer, Integer> spans = new TreeMap<>();

        final List<Integer> history = new ArrayList<>();
        final TreeMap<Integer, Row[]> tables = new TreeMap<>();
        final int[] base = new int[16];
        final LoopRow[] loops = new LoopRow[8];
        final int[][] corrector = new int[3][16];
        int trust = 8;
        int strain = 0;
        int limit = 4;
        int halved = 0;

        void start() {
            for (int k : spans.keySet()) {
                tables.put(k, new Row[1 << rowBits]);
            }
            Arrays.fill(base, 1);
            for (int i = 0; i < 8; i++) {
                loops[i] = new LoopRow();
            }
        }

        int index(int k, int a) {
            int h = spans.get(k);
            return (a ^ (a / (1 << rowBits)) ^ fold(history, h, rowBits) ^ k) % (1 << rowBits);
        }

        int tag(int k, int a) {
            int h = spans.get(k);
            return (a ^ fold(history, h, tagBits) ^ (2 * fold(history, h, tagBits - 1))) % (1 << tagBits);
        }

        boolean matches(int k, int a) {
            Row row = tables.get(k)[index(k, a)];
            return row != null && row.tag == tag(k, a);
        }

        int greatestBelow(int below, int a) {
            for (int k = below - 1; k >= 1; k--) {
                if (tables.containsKey(k) && matches(k, a)) {
                    return k;
                }
            }
            return 0;
        }

        int provider(int a) {
            return greatestBelow(99, a);
        }

        int alternate(int a) {
            return greatestBelow(provider(a), a);
        }

        int says(int k, int a) {
            if (k == 0) {
                return base[a % 16] >= 2 ? 1 : 0;
            }
            return tables.get(k)[index(k, a)].count >= 0 ? 1 : 0;
        }

        boolean weak(int a) {
            int k = provider(a);
            if (k == 0) {
                return false;
            }
            Row row = tables.get(k)[index(k, a)];
            return (row.count == 0 || row.count == -1) && row.use == 0;
        }

        int first(int a) {
            if (weak(a) && (parts & 4) != 0 && trust > 7) {
                return says(alternate(a), a);
            }
            return says(provider(a), a);
        }

        int[] correctorPlaces(int a) {
            int last4 = 0;
            for (int i = 0; i < 4 && i < history.size(); i++) {
                last4 += history.get(history.size() - 1 - i) << i;
            }
            return new int[] {2 * (a % 8) + first(a), (a ^ last4) % 16, (a ^ fold(history, 12, 4)) % 16};
        }

        int sum(int a) {
            int[] at = correctorPlaces(a);
            int sum = first(a) == 1 ? 6 : -6;
            for (int r = 0; r < 3; r++) {
                sum += 2 * corrector[r][at[r]] + 1;
            }
            return sum;
        }

        /** GUESS, and by whom. */
        int[] guess(int a) {
            if ((parts & 1) != 0) {
                LoopRow row = loops[a % 8];
                if (row.address == a && row.sure == 3) {
                    return new int[] {row.run < row.length ? 1 : 0, 1};
                }
            }
            if ((parts & 2) != 0) {
                int side = sum(a) > 0 ? 1 : 0;
                if (side != first(a) && Math.abs(sum(a)) >= limit) {
                    return new int[] {side, 2};
                }
            }
            return new int[] {first(a), 0};
        }

        void learn(int a, int taken) {
            int guess = guess(a)[0];
            int sum = sum(a);
            int side = sum > 0 ? 1 : 0;
            int[] at = correctorPlaces(a);
            int first = first(a);
            int provider = provider(a);
            int alternate = alternate(a);
            boolean weak = weak(a);
            int said = says(provider, a);
            int saidElse = says(alternate, a);
            if ((parts & 1) != 0) {
                learnLoops(a, taken, guess != taken);
            }
            if ((parts & 2) != 0) {
                if (side != first) {
                    limit = side == taken ? Math.max(1, limit - 1) : Math.min(15, limit + 1);
                }
                if (side != taken || Math.abs(sum) < 12) {
                    for (int r = 0; r < 3; r++) {
                        int moved = corrector[r][at[r]] + (taken == 1 ? 1 : -1);
                        corrector[r][at[r]] = Math.max(-8, Math.min(7, moved));
                    }
                }
            }
            if ((parts & 4) != 0 && weak && said != saidElse) {
                trust = saidElse == taken ? Math.min(15, trust + 1) : Math.max(0, trust - 1);
            }
            if (provider > 0 && said != saidElse) {
                Row row = tables.get(provider)[index(provider, a)];
                row.use = said == taken ? Math.min(3, row.use + 1) : Math.max(0, row.use - 1);
            }
            count(provider, a, taken);
            if (weak) {
                count(alternate, a, taken);
            }
            if (first != taken) {
                takeRow(provider, a, taken);
            }
            history.add(taken);
        }

        private void count(int k, int a, int taken) {
            int by = taken == 1 ? 1 : -1;
            if (k == 0) {
                base[a % 16] = Math.max(0, Math.min(3, base[a % 16] + by));
            } else {
                Row row = tables.get(k)[index(k, a)];
                row.count = Math.max(-4, Math.min(3, row.count + by));
            }
        }

        private void takeRow(int provider, int a, int taken) {
            if (tables.tailMap(provider, false).isEmpty()) {
                return;
            }
            for (int k : tables.tailMap(provider, false).keySet()) {
                Row row = tables.get(k)[index(k, a)];
                if (row == null || row.use == 0) {
                    Row fresh = new Row();
                    fresh.tag = tag(k, a);
                    fresh.count = taken == 1 ? 0 : -1;
                    tables.get(k)[index(k, a)] = fresh;
                    return;
                }
            }
            for (int k : tables.tailMap(provider, false).keySet()) {
                tables.get(k)[index(k, a)].use--;
            }
            strain++;
            if (strain == age) {
                for (Row[] rows : tables.values()) {
                    for (Row row : rows) {
                        if (row != null) {
                            row.use = row.use / 2;
                        }
                    }
                }
                strain = 0;
                halved++;
            }
        }

        private void learnLoops(int a, int taken, boolean wrong) {
            LoopRow row = loops[a % 8];
            if (row.address == a) {
                if (taken == 1) {
                    row.run++;
                    if (row.length != null && row.run > row.length) {
                        row.length = null;
                        row.sure = 0;
                    }
                    if (row.run == 60) {
                        loops[a % 8] = new LoopRow();
                    }
                } else {
                    if (row.length != null && row.run == row.length) {
                        row.sure = Math.min(3, row.sure + 1);
                    } else {
                        row.length = row.run;
                        row.sure = 0;
                    }
                    row.run = 0;
                }
            } else if (wrong) {
                if (row.age > 0) {
                    row.age--;
                } else {
                    LoopRow fresh = new LoopRow();
                    fresh.address = a;
                    fresh.age = 3;
                    loops[a % 8] = fresh;
                }
            }
        }
    }

    private Guesser guesser(int parts, int leftOut, int otherTable, int otherSpan) {
        Guesser g = new Guesser();
        g.rowBits = head(0);
        g.tagBits = head(1);
        g.age = head(2);
        g.parts = parts;
        List<Integer> spans = spans();
        for (int k = 1; k <= spans.size(); k++) {
            if (k != leftOut) {
                g.spans.put(k, k == otherTable ? otherSpan : spans.get(k - 1));
            }
        }
        g.start();
        return g;
    }

    private Guesser own() {
        return guesser(head(5), -1, -1, -1);
    }

    private List<String[]> atOf;
    private String atActs = "";
    private int atMoment;
    private Guesser atLast;

    private Guesser at(int moment) {
        String key = Arrays.deepToString(acts.toArray());
        if (atOf != program || !key.equals(atActs) || moment != atMoment) {
            atLast = atOnce(moment);
            atOf = program;
            atActs = key;
            atMoment = moment;
        }
        return atLast;
    }

    private Guesser atOnce(int moment) {
        Guesser g = own();
        List<int[]> all = branches();
        for (int m = 0; m < moment; m++) {
            g.learn(all.get(m)[0], all.get(m)[1]);
        }
        return g;
    }

    private int wrongOf(Guesser g, List<int[]> all) {
        int wrong = 0;
        for (int[] b : all) {
            if (g.guess(b[0])[0] != b[1]) {
                wrong++;
            }
            g.learn(b[0], b[1]);
        }
        return wrong;
    }

    private List<String[]> factsOf;
    private String factsActs = "";
    private List<int[]> factsLast;

    /** Of each BRANCH what branch() answers. */
    private List<int[]> facts() {
        String key = Arrays.deepToString(acts.toArray());
        if (factsOf != program || !key.equals(factsActs)) {
            factsLast = factsOnce();
            factsOf = program;
            factsActs = key;
        }
        return factsLast;
    }

    private List<int[]> factsOnce() {
        List<int[]> facts = new ArrayList<>();
        if (none()) {
            return facts;
        }
        Guesser g = own();
        for (int[] b : branches()) {
            int a = b[0];
            facts.add(new int[] {a, b[1], g.guess(a)[0], g.provider(a), g.alternate(a), g.weak(a) ? 1 : 0,
                g.first(a), g.guess(a)[1], b[2]});
            g.learn(a, b[1]);
        }
        return facts;
    }

    // ------------------------------------------------------------------ the promises

    public int feed(int a, int b, int c, int d, int e) {
        if (tape.length() > 780) {
            return -1;
        }
        for (int v : new int[] {a, b, c, d, e}) {
            tape += "" + (char) (v >>> 24) + (char) (v >>> 16 & 255) + (char) (v >>> 8 & 255) + (char) (v & 255);
        }
        return tape.length();
    }

    public int end(int n) {
        if (n < 0 || n > tape.length()) {
            return -1;
        }
        tape = tape.substring(0, n);
        return n;
    }

    public int program() {
        String text = tape;
        tape = "";
        try {
            program = parse(text);
            acts = new ArrayList<>();
            fault = 0;
            faultPlace = -1;
            return program.size();
        } catch (Fault f) {
            fault = f.what;
            faultPlace = f.place;
            return -4;
        }
    }

    public int fault(int what) {
        return what == 0 ? fault : what == 1 ? faultPlace : -1;
    }

    public int op(int op, int what) {
        if (op < 0 || op >= ops().size() || what < 0 || what > 3) {
            return -2;
        }
        String[] line = ops().get(op);
        if (what == 0) {
            for (int kind = 0; kind < FORMS.length; kind++) {
                if (FORMS[kind][0].equals(line[0])) {
                    return kind;
                }
            }
        }
        return what < line.length ? Integer.parseInt(line[what]) : -1;
    }

    public int steps() {
        return none() ? -2 : ran().nexts.size() - 1;
    }

    public int why() {
        return none() ? -2 : ran().why;
    }

    public int next(int step) {
        return none() || step < 0 || step > steps() ? -2 : ran().nexts.get(step);
    }

    public int register(int register, int step) {
        return none() || step < 0 || step > steps() || register < 0 || register > 7
            ? -2 : ran().registers.get(step)[register];
    }

    public int branch(int branch, int what) {
        return branch < 0 || branch >= branches().size() || what < 0 || what > 8 ? -2 : facts().get(branch)[what];
    }

    private boolean noMoment(int moment) {
        return none() || moment < 0 || moment > branches().size();
    }

    private static boolean out(int v, int low, int high) {
        return v < low || v > high;
    }

    public int wrong(int moment) {
        if (noMoment(moment)) {
            return -2;
        }
        int wrong = 0;
        for (int[] f : facts().subList(0, moment)) {
            wrong += f[1] != f[2] ? 1 : 0;
        }
        return wrong;
    }

    public int wrongs(int address) {
        if (none() || out(address, 0, 63)) {
            return -2;
        }
        int wrong = 0;
        for (int[] f : facts()) {
            wrong += f[1] != f[2] && f[0] == address ? 1 : 0;
        }
        return wrong;
    }

    public int worst() {
        if (none()) {
            return -2;
        }
        int worst = -1;
        for (int a = 63; a >= 0; a--) {
            if (wrongs(a) > 0 && (worst == -1 || wrongs(a) >= wrongs(worst))) {
                worst = a;
            }
        }
        return worst;
    }

    public int streak() {
        if (none()) {
            return -2;
        }
        StringBuilder text = new StringBuilder();
        for (int[] f : facts()) {
            text.append(f[1] == f[2] ? 'r' : ' ');
        }
        int longest = 0;
        for (String piece : text.toString().split(" ")) {
            longest = Math.max(longest, piece.length());
        }
        return longest;
    }

    public int said(int who) {
        if (none() || out(who, 0, 2)) {
            return -2;
        }
        int n = 0;
        for (int[] f : facts()) {
            n += f[7] == who ? 1 : 0;
        }
        return n;
    }

    public int gained(int who) {
        if (none() || out(who, 0, 2)) {
            return -1000;
        }
        int n = 0;
        for (int[] f : facts()) {
            boolean right = f[2] == f[1];
            boolean firstRight = f[6] == f[1];
            if (f[7] == who && right && !firstRight) {
                n++;
            }
            if (f[7] == who && !right && firstRight) {
                n--;
            }
        }
        return n;
    }

    public int provided(int table) {
        if (none() || out(table, 0, spans().size())) {
            return -2;
        }
        int n = 0;
        for (int[] f : facts()) {
            n += f[3] == table ? 1 : 0;
        }
        return n;
    }

    public int history(int moment, int n) {
        if (noMoment(moment) || out(n, 0, 30)) {
            return -2;
        }
        List<int[]> all = branches();
        int bits = 0;
        for (int i = 0; i < n && i < moment; i++) {
            bits += all.get(moment - 1 - i)[1] << i;
        }
        return bits;
    }

    public int fold(int moment, int span, int n) {
        return noMoment(moment) || out(span, 1, 40) || out(n, 1, 10) ? -2 : fold(at(moment).history, span, n);
    }

    private boolean noTable(int table) {
        return none() || out(table, 1, spans().size());
    }

    public int index(int table, int address, int moment) {
        return noMoment(moment) || noTable(table) || out(address, 0, 63) ? -2 : at(moment).index(table, address);
    }

    public int tag(int table, int address, int moment) {
        return noMoment(moment) || noTable(table) || out(address, 0, 63) ? -2 : at(moment).tag(table, address);
    }

    public int provider(int address, int moment) {
        return noMoment(moment) || out(address, 0, 63) ? -2 : at(moment).provider(address);
    }

    public int alternate(int address, int moment) {
        return noMoment(moment) || out(address, 0, 63) ? -2 : at(moment).alternate(address);
    }

    public int guess(int address, int moment) {
        return noMoment(moment) || out(address, 0, 63) ? -2 : at(moment).guess(address)[0];
    }

    public int adds(int address, int moment) {
        return noMoment(moment) || out(address, 0, 63) ? -1000 : at(moment).sum(address);
    }

    public int entry(int table, int i, int what, int moment) {
        if (noMoment(moment) || noTable(table) || out(i, 0, (1 << head(0)) - 1) || out(what, 0, 2)) {
            return -1000;
        }
        Row row = at(moment).tables.get(table)[i];
        if (row == null) {
            return what == 0 ? -1 : 0;
        }
        return what == 0 ? row.tag : what == 1 ? row.count : row.use;
    }

    public int held(int table, int moment) {
        if (noMoment(moment) || out(table, 0, spans().size())) {
            return -2;
        }
        int n = 0;
        for (int k = 1; k <= spans().size(); k++) {
            for (Row row : at(moment).tables.get(k)) {
                n += row != null && (table == 0 || table == k) ? 1 : 0;
            }
        }
        return n;
    }

    public int base(int i, int moment) {
        return noMoment(moment) || out(i, 0, 15) ? -2 : at(moment).base[i];
    }

    public int gauge(int what, int moment) {
        if (noMoment(moment) || out(what, 0, 3)) {
            return -2;
        }
        Guesser g = at(moment);
        return new int[] {g.trust, g.strain, g.limit, g.halved}[what];
    }

    public int loop(int i, int what, int moment) {
        if (noMoment(moment) || out(i, 0, 7) || out(what, 0, 4)) {
            return -2;
        }
        LoopRow row = at(moment).loops[i];
        return new int[] {row.address, row.length == null ? -1 : row.length, row.run, row.sure, row.age}[what];
    }

    public int corrector(int row, int i, int moment) {
        return noMoment(moment) || out(row, 0, 2) || out(i, 0, 15) ? -1000 : at(moment).corrector[row][i];
    }

    public int clash(int address, int other, int moment) {
        if (noMoment(moment) || out(address, 0, 63) || out(other, 0, 63)) {
            return -2;
        }
        Guesser g = at(moment);
        int n = 0;
        for (int k = 1; k <= spans().size(); k++) {
            if (g.index(k, address) == g.index(k, other) && g.tag(k, address) == g.tag(k, other)) {
                n++;
            }
        }
        return n;
    }

    public int strays(int branch) {
        if (none() || out(branch, 0, ran().branches.size() - 1)) {
            return -2;
        }
        int[] f = facts().get(branch);
        return f[1] == f[2] ? 0 : wrongWay(branches().get(branch))[0];
    }

    public int stray(int branch, int register) {
        if (none() || out(branch, 0, ran().branches.size() - 1) || out(register, 0, 7)) {
            return -2;
        }
        int[] f = facts().get(branch);
        return f[1] == f[2] ? -1 : wrongWay(branches().get(branch))[1 + register];
    }

    private int cost(int parts) {
        Guesser g = guesser(parts, -1, -1, -1);
        int cost = steps();
        for (int[] b : ran().branches) {
            if (g.guess(b[0])[0] != b[1]) {
                cost += head(3) + wrongWay(b)[0];
            }
            g.learn(b[0], b[1]);
        }
        return cost;
    }

    public int cycles() {
        return none() ? -2 : cost(head(5));
    }

    public int cheapest() {
        if (none()) {
            return -2;
        }
        int least = Integer.MAX_VALUE;
        for (int p = 0; p < 8; p++) {
            least = Math.min(least, cost(p));
        }
        return least;
    }

    public int by(int parts) {
        return none() || out(parts, 0, 7) ? -2 : wrongOf(guesser(parts, -1, -1, -1), branches());
    }

    public int ideal() {
        if (none()) {
            return -2;
        }
        int best = 7;
        for (int p = 6; p >= 0; p--) {
            best = by(p) <= by(best) ? p : best;
        }
        return best;
    }

    public int without(int table) {
        return noTable(table) ? -2 : wrongOf(guesser(head(5), table, -1, -1), branches());
    }

    public int spare() {
        if (none()) {
            return -2;
        }
        int best = spans().isEmpty() ? -1 : spans().size();
        for (int k = best - 1; k >= 1; k--) {
            best = without(k) <= without(best) ? k : best;
        }
        return best;
    }

    public int spanned(int table, int span) {
        if (noTable(table)) {
            return -2;
        }
        int low = table == 1 ? 1 : spans().get(table - 2) + 1;
        int high = table == spans().size() ? 40 : spans().get(table) - 1;
        return out(span, low, high) ? -2 : wrongOf(guesser(head(5), -1, table, span), branches());
    }

    public int span(int table) {
        if (noTable(table)) {
            return -2;
        }
        int best = -1;
        int fewest = Integer.MAX_VALUE;
        for (int h = 40; h >= 1; h--) {
            int wrong = spanned(table, h);
            if (wrong != -2 && wrong <= fewest) {
                best = h;
                fewest = wrong;
            }
        }
        return best;
    }

    private int[] rounds(int address, int bits, int n) {
        int[] wrongs = new int[30];
        Guesser g = own();
        for (int i = 0; i < 30 * n; i++) {
            int taken = bits >> (i % n) & 1;
            wrongs[i / n] += g.guess(address)[0] != taken ? 1 : 0;
            g.learn(address, taken);
        }
        return wrongs;
    }

    private boolean noPattern(int address, int bits, int n) {
        return none() || out(address, 0, 63) || out(n, 1, 16) || out(bits, 0, (1 << n) - 1);
    }

    public int round(int address, int bits, int n, int round) {
        return noPattern(address, bits, n) || out(round, 0, 29) ? -2 : rounds(address, bits, n)[round];
    }

    public int learnt(int address, int bits, int n) {
        if (noPattern(address, bits, n)) {
            return -2;
        }
        int[] wrongs = rounds(address, bits, n);
        for (int r = 0; r < 30; r++) {
            int later = 0;
            for (int s = r; s < 30; s++) {
                later += wrongs[s];
            }
            if (later == 0) {
                return r;
            }
        }
        return -1;
    }

    public int learns(int address, int n) {
        if (none() || out(address, 0, 63) || out(n, 1, 5)) {
            return -2;
        }
        int learns = 0;
        for (int bits = 0; bits < 1 << n; bits++) {
            learns += learnt(address, bits, n) != -1 ? 1 : 0;
        }
        return learns;
    }

    public int trace(int slot) {
        if (none() || out(slot, 0, 3)) {
            return -2;
        }
        if (rows[slot] == null) {
            return -6;
        }
        List<int[]> told = new ArrayList<>();
        for (long v : rows[slot]) {
            if (v < 0 || v > 127) {
                return -2;
            }
            told.add(new int[] {(int) v / 2, (int) v % 2});
        }
        return wrongOf(own(), told);
    }

    public int like(int slot) {
        if (none() || out(slot, 0, 3)) {
            return -2;
        }
        if (rows[slot] == null) {
            return -6;
        }
        for (long v : rows[slot]) {
            if (v != 0 && v != 1) {
                return -2;
            }
        }
        List<int[]> all = branches();
        if (rows[slot].length > all.size()) {
            return -2;
        }
        int like = 0;
        for (int p = 0; p < 8; p++) {
            Guesser g = guesser(p, -1, -1, -1);
            boolean so = true;
            for (int i = 0; i < rows[slot].length; i++) {
                so &= g.guess(all.get(i)[0])[0] == rows[slot][i];
                g.learn(all.get(i)[0], all.get(i)[1]);
            }
            like += so ? 1 << p : 0;
        }
        return like;
    }

    public int meets(int address, int taken) {
        if (none() || out(address, 0, 63) || out(taken, 0, 1)) {
            return -2;
        }
        if (acts.size() == 40) {
            return -5;
        }
        int guess = at(branches().size()).guess(address)[0];
        acts.add(new int[] {address, taken});
        return guess == taken ? 1 : 0;
    }

    public int undo() {
        if (none()) {
            return -2;
        }
        if (acts.isEmpty()) {
            return -5;
        }
        acts.remove(acts.size() - 1);
        return acts.size();
    }

    public int anew() {
        if (none()) {
            return -2;
        }
        int n = acts.size();
        acts = new ArrayList<>();
        return n;
    }

    public int count(int what) {
        int held = 0;
        for (long[] row : rows) {
            held += row != null ? 1 : 0;
        }
        int[] counts = {head(0), head(1), head(2), head(3), head(4), head(5), spans().size(), ops().size(),
            none() ? 0 : ran().branches.size(), acts.size(), program.size(), tape.length(), held};
        return out(what, 0, 12) ? -1 : counts[what];
    }

    public int image(int k) {
        if (out(k, 0, 2)) {
            return -2;
        }
        images.set(k, new Object[] {program, new ArrayList<>(acts)});
        return 0;
    }

    @SuppressWarnings("unchecked")
    public int back(int k) {
        if (out(k, 0, 2)) {
            return -2;
        }
        if (images.get(k) == null) {
            return -6;
        }
        program = (List<String[]>) images.get(k)[0];
        acts = new ArrayList<>((List<int[]>) images.get(k)[1]);
        return 0;
    }

    public int row(int slot, int width, int n) {
        if (out(slot, 0, 3) || out(width, 0, 1) || n > 60) {
            return -2;
        }
        if (n < 0) {
            return -3;
        }
        rows[slot] = new long[n];
        widths[slot] = width;
        return 0;
    }

    public int write(int slot, int i, long v) {
        if (out(slot, 0, 3)) {
            return -2;
        }
        if (rows[slot] == null) {
            return -6;
        }
        if (out(i, 0, rows[slot].length - 1)) {
            return -7;
        }
        rows[slot][i] = widths[slot] == 1 ? v : (long) (int) v;
        return 0;
    }

    public long number(int slot, int i) {
        return out(slot, 0, 3) || rows[slot] == null || out(i, 0, rows[slot].length - 1) ? -1000 : rows[slot][i];
    }
}
