import java.util.Arrays;

/**
 * Branches guessed by the longest history that matches.
 *
 * Every row is made by the constructor and used again: no call makes an object.
 */
public final class BranchGuess {
    public static final int NONE = -1;

    private static final int NO_SUCH = -2;
    private static final int BELOW_ZERO = -3;
    private static final int FAULTY = -4;
    private static final int NO_MORE = -5;
    private static final int NOTHING = -6;
    private static final int NO_NUMBER = -7;
    /** In place of NO_SUCH where -2 can be an answer. */
    private static final int OFF_SCALE = -1000;

    private static final int MOST_BYTES = 800;
    private static final int MOST_TABLES = 5;
    private static final int MOST_SPAN = 40;
    private static final int MOST_ROWS = 16;
    private static final int MOST_OPS = 40;
    private static final int MOST_STEPS = 200;
    private static final int MOST_ACTS = 40;
    private static final int MOST_BRANCHES = MOST_STEPS + MOST_ACTS;
    private static final int MOST_BITS = 16;
    private static final int REGISTERS = 8;
    private static final int MODULUS = 1000;
    private static final int LAST_ADDRESS = 63;
    private static final int ROUNDS = 30;
    private static final int ALL_PARTS = 8;
    private static final int IMAGES = 3;
    private static final int SLOTS = 4;
    private static final int MOST_NUMBERS = 60;

    private static final int HEAD_ROWS = 0;
    private static final int HEAD_TAG = 1;
    private static final int HEAD_AGE = 2;
    private static final int HEAD_COST = 3;
    private static final int HEAD_DEEP = 4;
    private static final int HEAD_PARTS = 5;
    private static final int HEAD_NUMBERS = 6;
    private static final int[] HEAD_LEAST = {1, 2, 1, 0, 0, 0};
    private static final int[] HEAD_MOST = {4, 6, 9, 20, 9, 7};

    private static final int PUT = 0;
    private static final int ADD = 1;
    private static final int TAKE = 2;
    private static final int COPY = 3;
    private static final int SUM = 4;
    private static final int LESS = 5;
    private static final int BELOW = 6;
    private static final int SAME = 7;
    private static final int ODD = 8;
    private static final int GO = 9;
    private static final int STOP = 10;
    private static final int OP_NUMBERS = 3;

    private static final int PART_LOOPS = 1;
    private static final int PART_CORRECTOR = 2;
    private static final int PART_TRUST = 4;

    private static final int BY_FIRST = 0;
    private static final int BY_LOOPS = 1;
    private static final int BY_CORRECTOR = 2;

    private static final int FACT_ADDRESS = 0;
    private static final int FACT_TAKEN = 1;
    private static final int FACT_GUESS = 2;
    private static final int FACT_PROVIDER = 3;
    private static final int FACT_ALTERNATE = 4;
    private static final int FACT_WEAK = 5;
    private static final int FACT_FIRST = 6;
    private static final int FACT_WHO = 7;
    private static final int FACT_STEP = 8;
    private static final int FACTS = 9;

    private final Reader reader;
    private final Told draft;
    private final Told told;
    private final Told[] images;
    private final boolean[] kept;
    private final Run run;
    private final Trail trail;
    /** As told; it goes from MOMENT to MOMENT. */
    private final Guesser own;
    /** For what would have been guessed by others. */
    private final Guesser rival;
    private final int[] roundWrongs;
    private final Slots slots;

    public BranchGuess() {
        reader = new Reader();
        draft = new Told();
        told = new Told();
        images = new Told[IMAGES];
        for (int k = 0; k < IMAGES; k++) {
            images[k] = new Told();
        }
        kept = new boolean[IMAGES];
        run = new Run();
        trail = new Trail();
        own = new Guesser();
        rival = new Guesser();
        roundWrongs = new int[ROUNDS];
        slots = new Slots();
    }

    // The TAPE and the PROGRAM

    public int feed(int a, int b, int c, int d, int e) {
        if (reader.length + 20 > MOST_BYTES) {
            return NONE;
        }
        reader.append(a);
        reader.append(b);
        reader.append(c);
        reader.append(d);
        reader.append(e);
        return reader.length;
    }

    public int end(int n) {
        if (!within(n, 0, reader.length)) {
            return NONE;
        }
        reader.length = n;
        return n;
    }

    public int program() {
        if (!reader.readInto(draft)) {
            return FAULTY;
        }
        told.copyFrom(draft);
        rebuild();
        return told.lines;
    }

    public int fault(int what) {
        if (what == 0) {
            return reader.fault;
        }
        return what == 1 ? reader.faultPlace : NONE;
    }

    public int op(int op, int what) {
        if (!told.hasOp(op) || !within(what, 0, OP_NUMBERS)) {
            return NO_SUCH;
        }
        return what == 0 ? told.kinds[op] : told.numbers[OP_NUMBERS * op + what - 1];
    }

    // RUN

    public int steps() {
        return isTold() ? run.done : NO_SUCH;
    }

    public int why() {
        return isTold() ? run.reason : NO_SUCH;
    }

    public int next(int step) {
        return isStep(step) ? run.nexts[step] : NO_SUCH;
    }

    public int register(int register, int step) {
        if (!isStep(step) || !isRegister(register)) {
            return NO_SUCH;
        }
        return run.registers[REGISTERS * step + register];
    }

    // BRANCHES

    public int branch(int branch, int what) {
        if (!isBranch(branch) || !within(what, 0, FACTS - 1)) {
            return NO_SUCH;
        }
        return trail.fact(branch, what);
    }

    public int wrong(int moment) {
        if (!isMoment(moment)) {
            return NO_SUCH;
        }
        int wrong = 0;
        for (int b = 0; b < moment; b++) {
            if (trail.isWrong(b)) {
                wrong++;
            }
        }
        return wrong;
    }

    public int wrongs(int address) {
        return isTold() && isAddress(address) ? trail.wrongsAt(address) : NO_SUCH;
    }

    public int worst() {
        if (!isTold()) {
            return NO_SUCH;
        }
        int worst = NONE;
        int most = 0;
        for (int a = 0; a <= LAST_ADDRESS; a++) {
            int wrongs = trail.wrongsAt(a);
            if (wrongs > most) {
                most = wrongs;
                worst = a;
            }
        }
        return worst;
    }

    public int streak() {
        if (!isTold()) {
            return NO_SUCH;
        }
        int longest = 0;
        int length = 0;
        for (int b = 0; b < trail.size; b++) {
            length = trail.isWrong(b) ? 0 : length + 1;
            longest = Math.max(longest, length);
        }
        return longest;
    }

    public int said(int who) {
        if (!isTold() || !isWho(who)) {
            return NO_SUCH;
        }
        return trail.countOf(FACT_WHO, who);
    }

    public int gained(int who) {
        if (!isTold() || !isWho(who)) {
            return OFF_SCALE;
        }
        int gained = 0;
        for (int b = 0; b < trail.size; b++) {
            if (trail.fact(b, FACT_WHO) == who && trail.fact(b, FACT_GUESS) != trail.fact(b, FACT_FIRST)) {
                gained += trail.isWrong(b) ? -1 : 1;
            }
        }
        return gained;
    }

    public int provided(int table) {
        if (!isTold() || !within(table, 0, told.tables)) {
            return NO_SUCH;
        }
        return trail.countOf(FACT_PROVIDER, table);
    }

    // HISTORY and the GUESSER at a MOMENT

    public int history(int moment, int n) {
        if (!isMoment(moment) || !within(n, 0, 30)) {
            return NO_SUCH;
        }
        goTo(moment);
        return (int) own.past & lowest(n);
    }

    public int fold(int moment, int span, int n) {
        if (!isMoment(moment) || !within(span, 1, MOST_SPAN) || !within(n, 1, 10)) {
            return NO_SUCH;
        }
        goTo(moment);
        return folded(own.past, span, n);
    }

    public int index(int table, int address, int moment) {
        if (!isMoment(moment) || !isTable(table) || !isAddress(address)) {
            return NO_SUCH;
        }
        goTo(moment);
        return own.tables.indexOf(table, address, own.past);
    }

    public int tag(int table, int address, int moment) {
        if (!isMoment(moment) || !isTable(table) || !isAddress(address)) {
            return NO_SUCH;
        }
        goTo(moment);
        return own.tables.tagOf(table, address, own.past);
    }

    public int provider(int address, int moment) {
        return askedAt(address, moment) ? own.tables.provider : NO_SUCH;
    }

    public int alternate(int address, int moment) {
        return askedAt(address, moment) ? own.tables.alternate : NO_SUCH;
    }

    public int guess(int address, int moment) {
        return askedAt(address, moment) ? own.answer : NO_SUCH;
    }

    public int adds(int address, int moment) {
        return askedAt(address, moment) ? own.corrector.total : OFF_SCALE;
    }

    public int entry(int table, int i, int what, int moment) {
        if (!isMoment(moment) || !isTable(table)
                || !within(i, 0, lowest(told.head[HEAD_ROWS])) || !within(what, 0, 2)) {
            return OFF_SCALE;
        }
        goTo(moment);
        int place = MOST_ROWS * (table - 1) + i;
        if (what == 0) {
            return own.tables.tags[place];
        }
        return what == 1 ? own.tables.counts[place] : own.tables.uses[place];
    }

    public int held(int table, int moment) {
        if (!isMoment(moment) || !within(table, 0, told.tables)) {
            return NO_SUCH;
        }
        goTo(moment);
        return table == 0
                ? own.tables.heldWithin(0, MOST_ROWS * MOST_TABLES)
                : own.tables.heldWithin(MOST_ROWS * (table - 1), MOST_ROWS * table);
    }

    public int base(int i, int moment) {
        if (!isMoment(moment) || !within(i, 0, 15)) {
            return NO_SUCH;
        }
        goTo(moment);
        return own.tables.bases[i];
    }

    public int gauge(int what, int moment) {
        if (!isMoment(moment) || !within(what, 0, 3)) {
            return NO_SUCH;
        }
        goTo(moment);
        if (what == 0) {
            return own.tables.trust;
        }
        if (what == 1) {
            return own.tables.strain;
        }
        return what == 2 ? own.corrector.limit : own.tables.halvings;
    }

    public int loop(int i, int what, int moment) {
        if (!isMoment(moment) || !within(i, 0, Loops.ROWS - 1) || !within(what, 0, 4)) {
            return NO_SUCH;
        }
        goTo(moment);
        if (what == 0) {
            return own.loops.owners[i];
        }
        if (what == 1) {
            return own.loops.lengths[i];
        }
        if (what == 2) {
            return own.loops.runs[i];
        }
        return what == 3 ? own.loops.sures[i] : own.loops.ages[i];
    }

    public int corrector(int row, int i, int moment) {
        if (!isMoment(moment) || !within(row, 0, Corrector.ROWS - 1) || !within(i, 0, Corrector.WIDTH - 1)) {
            return OFF_SCALE;
        }
        goTo(moment);
        return own.corrector.counts[Corrector.WIDTH * row + i];
    }

    public int clash(int address, int other, int moment) {
        if (!isMoment(moment) || !isAddress(address) || !isAddress(other)) {
            return NO_SUCH;
        }
        goTo(moment);
        int clashes = 0;
        for (int t = 1; t <= told.tables; t++) {
            if (own.tables.indexOf(t, address, own.past) == own.tables.indexOf(t, other, own.past)
                    && own.tables.tagOf(t, address, own.past) == own.tables.tagOf(t, other, own.past)) {
                clashes++;
            }
        }
        return clashes;
    }

    // WRONG WAYS and costs

    public int strays(int branch) {
        if (!within(branch, 0, trail.ofRun - 1)) {
            return NO_SUCH;
        }
        return trail.isWrong(branch) ? wander(branch) : 0;
    }

    public int stray(int branch, int register) {
        if (!within(branch, 0, trail.ofRun - 1) || !isRegister(register)) {
            return NO_SUCH;
        }
        if (!trail.isWrong(branch)) {
            return NONE;
        }
        wander(branch);
        return run.strayed[register];
    }

    public int cycles() {
        return isTold() ? costBy(told.head[HEAD_PARTS]) : NO_SUCH;
    }

    public int cheapest() {
        if (!isTold()) {
            return NO_SUCH;
        }
        int cheapest = costBy(0);
        for (int p = 1; p < ALL_PARTS; p++) {
            cheapest = Math.min(cheapest, costBy(p));
        }
        return cheapest;
    }

    // What others would have guessed

    public int by(int parts) {
        if (!isTold() || !within(parts, 0, ALL_PARTS - 1)) {
            return NO_SUCH;
        }
        setRivalBy(parts);
        return rivalWrongs();
    }

    public int ideal() {
        if (!isTold()) {
            return NO_SUCH;
        }
        int ideal = NONE;
        int fewest = MOST_BRANCHES + 1;
        for (int p = 0; p < ALL_PARTS; p++) {
            setRivalBy(p);
            int wrong = rivalWrongs();
            if (wrong < fewest) {
                fewest = wrong;
                ideal = p;
            }
        }
        return ideal;
    }

    public int without(int table) {
        if (!isTable(table)) {
            return NO_SUCH;
        }
        setRivalWithout(table);
        return rivalWrongs();
    }

    public int spare() {
        if (!isTold()) {
            return NO_SUCH;
        }
        int spare = NONE;
        int fewest = MOST_BRANCHES + 1;
        for (int t = 1; t <= told.tables; t++) {
            setRivalWithout(t);
            int wrong = rivalWrongs();
            if (wrong < fewest) {
                fewest = wrong;
                spare = t;
            }
        }
        return spare;
    }

    public int spanned(int table, int span) {
        if (!isTable(table) || !within(span, leastSpan(table), mostSpan(table))) {
            return NO_SUCH;
        }
        setRivalSpanned(table, span);
        return rivalWrongs();
    }

    public int span(int table) {
        if (!isTable(table)) {
            return NO_SUCH;
        }
        int best = NONE;
        int fewest = MOST_BRANCHES + 1;
        for (int h = leastSpan(table); h <= mostSpan(table); h++) {
            setRivalSpanned(table, h);
            int wrong = rivalWrongs();
            if (wrong < fewest) {
                fewest = wrong;
                best = h;
            }
        }
        return best;
    }

    // PATTERNS and rows of numbers

    public int round(int address, int bits, int n, int round) {
        if (!isPattern(address, bits, n) || !within(round, 0, ROUNDS - 1)) {
            return NO_SUCH;
        }
        playRounds(address, bits, n, round + 1);
        return roundWrongs[round];
    }

    public int learnt(int address, int bits, int n) {
        if (!isPattern(address, bits, n)) {
            return NO_SUCH;
        }
        playRounds(address, bits, n, ROUNDS);
        return firstRightRound();
    }

    public int learns(int address, int n) {
        if (!isTold() || !isAddress(address) || !within(n, 1, 5)) {
            return NO_SUCH;
        }
        int learns = 0;
        for (int bits = 0; bits <= lowest(n); bits++) {
            playRounds(address, bits, n, ROUNDS);
            if (roundWrongs[ROUNDS - 1] == 0) {
                learns++;
            }
        }
        return learns;
    }

    public int trace(int slot) {
        if (!isTold() || !isSlot(slot)) {
            return NO_SUCH;
        }
        if (!slots.hasRow(slot)) {
            return NOTHING;
        }
        if (!slots.allWithin(slot, 2 * LAST_ADDRESS + 1)) {
            return NO_SUCH;
        }
        rival.setAs(told);
        int wrong = 0;
        for (int i = 0; i < slots.lengths[slot]; i++) {
            int met = (int) slots.at(slot, i);
            if (rival.ask(met / 2) != met % 2) {
                wrong++;
            }
            rival.learn(met % 2);
        }
        return wrong;
    }

    public int like(int slot) {
        if (!isTold() || !isSlot(slot)) {
            return NO_SUCH;
        }
        if (!slots.hasRow(slot)) {
            return NOTHING;
        }
        if (!slots.allWithin(slot, 1) || slots.lengths[slot] > trail.size) {
            return NO_SUCH;
        }
        int like = 0;
        for (int p = 0; p < ALL_PARTS; p++) {
            setRivalBy(p);
            if (rivalGuessesAs(slot)) {
                like |= 1 << p;
            }
        }
        return like;
    }

    // Acts

    public int meets(int address, int taken) {
        if (!isTold() || !isAddress(address) || !within(taken, 0, 1)) {
            return NO_SUCH;
        }
        if (told.acted >= MOST_ACTS) {
            return NO_MORE;
        }
        int branch = trail.size;
        goTo(branch);
        told.acts[told.acted] = 2 * address + taken;
        told.acted++;
        trail.add(address, taken, NONE);
        record(branch);
        return trail.isWrong(branch) ? 0 : 1;
    }

    public int undo() {
        if (!isTold()) {
            return NO_SUCH;
        }
        if (told.acted == 0) {
            return NO_MORE;
        }
        keepActs(told.acted - 1);
        return told.acted;
    }

    public int anew() {
        if (!isTold()) {
            return NO_SUCH;
        }
        int acted = told.acted;
        keepActs(0);
        return acted;
    }

    // Counts, IMAGES, SLOTS

    public int count(int what) {
        if (within(what, 0, HEAD_NUMBERS - 1)) {
            return told.head[what];
        }
        switch (what) {
            case 6:
                return told.tables;
            case 7:
                return told.ops;
            case 8:
                return trail.ofRun;
            case 9:
                return told.acted;
            case 10:
                return told.lines;
            case 11:
                return reader.length;
            case 12:
                return slots.used();
            default:
                return NONE;
        }
    }

    public int image(int k) {
        if (!within(k, 0, IMAGES - 1)) {
            return NO_SUCH;
        }
        images[k].copyFrom(told);
        kept[k] = true;
        return 0;
    }

    public int back(int k) {
        if (!within(k, 0, IMAGES - 1)) {
            return NO_SUCH;
        }
        if (!kept[k]) {
            return NOTHING;
        }
        told.copyFrom(images[k]);
        rebuild();
        return 0;
    }

    public int row(int slot, int width, int n) {
        if (!isSlot(slot) || !within(width, 0, 1) || n > MOST_NUMBERS) {
            return NO_SUCH;
        }
        if (n < 0) {
            return BELOW_ZERO;
        }
        slots.renew(slot, width, n);
        return 0;
    }

    public int write(int slot, int i, long v) {
        if (!isSlot(slot)) {
            return NO_SUCH;
        }
        if (!slots.hasRow(slot)) {
            return NOTHING;
        }
        if (!within(i, 0, slots.lengths[slot] - 1)) {
            return NO_NUMBER;
        }
        slots.set(slot, i, v);
        return 0;
    }

    public long number(int slot, int i) {
        if (!isSlot(slot) || !within(i, 0, slots.lengths[slot] - 1)) {
            return OFF_SCALE;
        }
        return slots.at(slot, i);
    }

    // What is there

    private boolean isTold() {
        return told.lines > 0;
    }

    private boolean isStep(int step) {
        return isTold() && within(step, 0, run.done);
    }

    private boolean isBranch(int branch) {
        return within(branch, 0, trail.size - 1);
    }

    private boolean isMoment(int moment) {
        return isTold() && within(moment, 0, trail.size);
    }

    private boolean isTable(int table) {
        return within(table, 1, told.tables);
    }

    private boolean isPattern(int address, int bits, int n) {
        return isTold() && isAddress(address) && within(n, 1, MOST_BITS) && within(bits, 0, lowest(n));
    }

    private static boolean isRegister(int register) {
        return within(register, 0, REGISTERS - 1);
    }

    private static boolean isAddress(int address) {
        return within(address, 0, LAST_ADDRESS);
    }

    private static boolean isWho(int who) {
        return within(who, BY_FIRST, BY_CORRECTOR);
    }

    private static boolean isSlot(int slot) {
        return within(slot, 0, SLOTS - 1);
    }

    private static boolean within(long value, long least, long most) {
        return value >= least && value <= most;
    }

    /** The greatest number of n bits. */
    private static int lowest(int n) {
        return (1 << n) - 1;
    }

    private static int bounded(int value, int least, int most) {
        return Math.max(least, Math.min(most, value));
    }

    /** Halves are laid upon each other: the lowest n bits have all pieces of n bits in the end. */
    private static int folded(long past, int span, int n) {
        long rest = past & ((1L << span) - 1);
        for (int k = 5; k >= 0; k--) {
            int shift = n << k;
            if (shift < span) {
                rest ^= rest >>> shift;
            }
        }
        return (int) (rest & ((1L << n) - 1));
    }

    // How the answers are come by

    private void rebuild() {
        trail.clear();
        own.setAs(told);
        run.follow(told, trail);
        for (int i = 0; i < told.acted; i++) {
            trail.add(told.acts[i] / 2, told.acts[i] % 2, NONE);
        }
        for (int b = 0; b < trail.size; b++) {
            record(b);
        }
    }

    /** A BRANCH at the MOMENT that its own GUESSER has come to. */
    private void record(int branch) {
        own.ask(trail.fact(branch, FACT_ADDRESS));
        trail.note(branch, own);
        own.learn(trail.fact(branch, FACT_TAKEN));
    }

    private void keepActs(int n) {
        told.acted = n;
        trail.size = trail.ofRun + n;
    }

    /** Nothing can be unlearnt: a MOMENT ahead of this one, and acts that are gone, mean a start from 0. */
    private void goTo(int moment) {
        if (own.moment > moment) {
            own.clear();
        }
        for (int m = own.moment; m < moment; m++) {
            own.ask(trail.fact(m, FACT_ADDRESS));
            own.learn(trail.fact(m, FACT_TAKEN));
        }
    }

    private boolean askedAt(int address, int moment) {
        if (!isMoment(moment) || !isAddress(address)) {
            return false;
        }
        goTo(moment);
        own.ask(address);
        return true;
    }

    private int wander(int branch) {
        return run.wander(told, trail.fact(branch, FACT_STEP), trail.fact(branch, FACT_TAKEN));
    }

    private void setRivalBy(int parts) {
        rival.setAs(told);
        rival.parts = parts;
    }

    private void setRivalWithout(int table) {
        rival.setAs(told);
        rival.tables.leftOut = table;
    }

    private void setRivalSpanned(int table, int span) {
        rival.setAs(told);
        rival.tables.spans[table] = span;
    }

    private int rivalWrongs() {
        int wrong = 0;
        for (int b = 0; b < trail.size; b++) {
            if (rival.ask(trail.fact(b, FACT_ADDRESS)) != trail.fact(b, FACT_TAKEN)) {
                wrong++;
            }
            rival.learn(trail.fact(b, FACT_TAKEN));
        }
        return wrong;
    }

    private int costBy(int parts) {
        setRivalBy(parts);
        int cost = run.done;
        for (int b = 0; b < trail.ofRun; b++) {
            if (rival.ask(trail.fact(b, FACT_ADDRESS)) != trail.fact(b, FACT_TAKEN)) {
                cost += told.head[HEAD_COST] + wander(b);
            }
            rival.learn(trail.fact(b, FACT_TAKEN));
        }
        return cost;
    }

    private boolean rivalGuessesAs(int slot) {
        for (int b = 0; b < slots.lengths[slot]; b++) {
            if (rival.ask(trail.fact(b, FACT_ADDRESS)) != slots.at(slot, b)) {
                return false;
            }
            rival.learn(trail.fact(b, FACT_TAKEN));
        }
        return true;
    }

    private int leastSpan(int table) {
        return told.spans[table - 1] + 1;
    }

    private int mostSpan(int table) {
        return table < told.tables ? told.spans[table + 1] - 1 : MOST_SPAN;
    }

    private void playRounds(int address, int bits, int n, int rounds) {
        rival.setAs(told);
        for (int r = 0; r < rounds; r++) {
            roundWrongs[r] = 0;
            for (int i = 0; i < n; i++) {
                int taken = bits >> i & 1;
                if (rival.ask(address) != taken) {
                    roundWrongs[r]++;
                }
                rival.learn(taken);
            }
        }
    }

    private int firstRightRound() {
        if (roundWrongs[ROUNDS - 1] > 0) {
            return NONE;
        }
        int first = ROUNDS - 1;
        while (first > 0 && roundWrongs[first - 1] == 0) {
            first--;
        }
        return first;
    }

    /** The PROGRAM (LINES 0: none), and the acts that came behind it. */
    private static final class Told {
        final int[] head = new int[HEAD_NUMBERS];
        /** By TABLE; the first is none, its span 0. */
        final int[] spans = new int[MOST_TABLES + 1];
        final int[] kinds = new int[MOST_OPS];
        final int[] numbers = new int[OP_NUMBERS * MOST_OPS];
        /** Each twice the ADDRESS, and 1 more, if TAKEN. */
        final int[] acts = new int[MOST_ACTS];
        int lines;
        int tables;
        int ops;
        int acted;

        void clear() {
            Arrays.fill(head, 0);
            Arrays.fill(numbers, NONE);
            lines = 0;
            tables = 0;
            ops = 0;
            acted = 0;
        }

        void copyFrom(Told from) {
            System.arraycopy(from.head, 0, head, 0, head.length);
            System.arraycopy(from.spans, 0, spans, 0, spans.length);
            System.arraycopy(from.kinds, 0, kinds, 0, kinds.length);
            System.arraycopy(from.numbers, 0, numbers, 0, numbers.length);
            System.arraycopy(from.acts, 0, acts, 0, acts.length);
            lines = from.lines;
            tables = from.tables;
            ops = from.ops;
            acted = from.acted;
        }

        boolean hasOp(int op) {
            return within(op, 0, ops - 1);
        }

        boolean canDo(int op) {
            return hasOp(op) && kinds[op] != STOP;
        }

        boolean branches(int op) {
            return kinds[op] == BELOW || kinds[op] == SAME || kinds[op] == ODD;
        }

        /** L is the last of an OP's numbers. */
        int target(int op) {
            if (kinds[op] == GO) {
                return numbers[OP_NUMBERS * op];
            }
            return numbers[OP_NUMBERS * op + (kinds[op] == ODD ? 1 : 2)];
        }

        boolean takes(int op, int[] registers, int from) {
            int left = registers[from + numbers[OP_NUMBERS * op]];
            if (kinds[op] == ODD) {
                return left % 2 == 1;
            }
            int right = registers[from + numbers[OP_NUMBERS * op + 1]];
            return kinds[op] == BELOW ? left < right : left == right;
        }

        /** Answers what is next. */
        int perform(int op, int[] registers, int from) {
            if (kinds[op] == GO) {
                return target(op);
            }
            if (branches(op)) {
                return takes(op, registers, from) ? target(op) : op + 1;
            }
            int at = from + numbers[OP_NUMBERS * op];
            int second = numbers[OP_NUMBERS * op + 1];
            switch (kinds[op]) {
                case PUT:
                    registers[at] = second;
                    break;
                case ADD:
                    registers[at] = (registers[at] + second) % MODULUS;
                    break;
                case TAKE:
                    registers[at] = (registers[at] - second + MODULUS) % MODULUS;
                    break;
                case COPY:
                    registers[at] = registers[from + second];
                    break;
                case SUM:
                    registers[at] = (registers[at] + registers[from + second]) % MODULUS;
                    break;
                case LESS:
                    registers[at] = (registers[at] - registers[from + second] + MODULUS) % MODULUS;
                    break;
                default:
                    break;
            }
            return op + 1;
        }
    }

    /** The TAPE, and how it is read, TOKEN by TOKEN; behind the first FAULT nothing is read. */
    private static final class Reader {
        static final int AT_END = 0;
        static final int WORD = 1;
        static final int NUMBER = 2;
        static final int SIGN = 3;
        static final int NO_TOKEN = 4;

        static final int CANNOT_STAND = 1;
        static final int OUT_OF_BOUNDS = 2;
        static final int TOO_MANY = 3;

        /** Above every bound, and ten times it is still an int. */
        static final int HUGE = 100000;

        final byte[] bytes = new byte[MOST_BYTES];
        int length;
        int fault;
        int faultPlace = NONE;
        int start;
        int behind;
        int token;
        int value;

        void append(int four) {
            for (int shift = 24; shift >= 0; shift -= 8) {
                bytes[length] = (byte) (four >> shift);
                length++;
            }
        }

        /** Whether there was no FAULT; the TAPE is empty then, either way. */
        boolean readInto(Told draft) {
            draft.clear();
            fault = 0;
            faultPlace = NONE;
            behind = 0;
            advance();
            for (int i = 0; i < MOST_BYTES && fault == 0 && token != AT_END; i++) {
                readLine(draft);
            }
            length = 0;
            return fault == 0;
        }

        void readLine(Told draft) {
            if (draft.lines == 0) {
                readHead(draft);
            } else if (isWord("span")) {
                readSpan(draft);
            } else {
                readOp(draft);
            }
            if (fault == 0 && token != SIGN) {
                fail(CANNOT_STAND);
            }
            if (fault == 0) {
                draft.lines++;
                advance();
            }
        }

        void readHead(Told draft) {
            takeWord("guesser");
            for (int i = 0; i < HEAD_NUMBERS; i++) {
                takeWord(headWord(i));
                draft.head[i] = takeNumber(HEAD_LEAST[i], HEAD_MOST[i]);
            }
        }

        void readSpan(Told draft) {
            if (draft.ops > 0) {
                fail(CANNOT_STAND);
            } else if (draft.tables == MOST_TABLES) {
                fail(TOO_MANY);
            } else {
                advance();
                int span = takeNumber(draft.spans[draft.tables] + 1, MOST_SPAN);
                draft.tables++;
                draft.spans[draft.tables] = span;
            }
        }

        void readOp(Told draft) {
            int kind = kindOfWord();
            if (kind == NONE) {
                fail(CANNOT_STAND);
            } else if (draft.ops == MOST_OPS) {
                fail(TOO_MANY);
            } else {
                advance();
                String form = formOf(kind);
                for (int i = 0; i < form.length(); i++) {
                    draft.numbers[OP_NUMBERS * draft.ops + i] = takeNumber(0, mostOf(form.charAt(i)));
                }
                draft.kinds[draft.ops] = kind;
                draft.ops++;
            }
        }

        void takeWord(String word) {
            if (fault != 0) {
                return;
            }
            if (isWord(word)) {
                advance();
            } else {
                fail(CANNOT_STAND);
            }
        }

        /** 0, if there is a FAULT: nobody looks at it then. */
        int takeNumber(int least, int most) {
            if (fault != 0) {
                return 0;
            }
            if (token != NUMBER) {
                fail(CANNOT_STAND);
                return 0;
            }
            if (!within(value, least, most)) {
                fail(OUT_OF_BOUNDS);
                return 0;
            }
            int taken = value;
            advance();
            return taken;
        }

        void fail(int what) {
            fault = what;
            faultPlace = start;
        }

        void advance() {
            start = behind;
            while (start < length && (bytes[start] == ' ' || bytes[start] == '\n')) {
                start++;
            }
            behind = start;
            if (start == length) {
                token = AT_END;
            } else if (isLetter(bytes[start])) {
                token = WORD;
                while (behind < length && isLetter(bytes[behind])) {
                    behind++;
                }
            } else if (isDigit(bytes[start])) {
                token = NUMBER;
                value = 0;
                while (behind < length && isDigit(bytes[behind])) {
                    value = Math.min(HUGE, 10 * value + bytes[behind] - '0');
                    behind++;
                }
            } else {
                token = bytes[start] == ';' ? SIGN : NO_TOKEN;
                behind++;
            }
        }

        static boolean isLetter(byte sign) {
            return sign >= 'a' && sign <= 'z';
        }

        static boolean isDigit(byte sign) {
            return sign >= '0' && sign <= '9';
        }

        boolean isWord(String word) {
            if (token != WORD || behind - start != word.length()) {
                return false;
            }
            for (int i = 0; i < word.length(); i++) {
                if (bytes[start + i] != word.charAt(i)) {
                    return false;
                }
            }
            return true;
        }

        int kindOfWord() {
            for (int kind = PUT; kind <= STOP; kind++) {
                if (isWord(opWord(kind))) {
                    return kind;
                }
            }
            return NONE;
        }

        static String headWord(int i) {
            switch (i) {
                case HEAD_ROWS:
                    return "rows";
                case HEAD_TAG:
                    return "tag";
                case HEAD_AGE:
                    return "age";
                case HEAD_COST:
                    return "cost";
                case HEAD_DEEP:
                    return "deep";
                default:
                    return "parts";
            }
        }

        static String opWord(int kind) {
            switch (kind) {
                case PUT:
                    return "put";
                case ADD:
                    return "add";
                case TAKE:
                    return "take";
                case COPY:
                    return "copy";
                case SUM:
                    return "sum";
                case LESS:
                    return "less";
                case BELOW:
                    return "below";
                case SAME:
                    return "same";
                case ODD:
                    return "odd";
                case GO:
                    return "go";
                default:
                    return "stop";
            }
        }

        /** A sign for each number: R a REGISTER, N an amount, L an OP. */
        static String formOf(int kind) {
            switch (kind) {
                case PUT:
                case ADD:
                case TAKE:
                    return "RN";
                case COPY:
                case SUM:
                case LESS:
                    return "RR";
                case BELOW:
                case SAME:
                    return "RRL";
                case ODD:
                    return "RL";
                case GO:
                    return "L";
                default:
                    return "";
            }
        }

        static int mostOf(char sign) {
            if (sign == 'R') {
                return REGISTERS - 1;
            }
            return sign == 'N' ? MODULUS - 1 : MOST_OPS - 1;
        }
    }

    /** RUN: what is next, and the REGISTERS, at each STEP. */
    private static final class Run {
        static final int AT_STOP = 1;
        static final int AT_NO_OP = 2;
        static final int OUT_OF_STEPS = 3;

        final int[] nexts = new int[MOST_STEPS + 1];
        final int[] registers = new int[REGISTERS * (MOST_STEPS + 1)];
        /** REGISTERS at the end of the latest WRONG WAY. */
        final int[] strayed = new int[REGISTERS];
        int done;
        int reason;

        /** RUN starts with what stands at STEP 0: zeros, which nothing ever changes. */
        void follow(Told told, Trail trail) {
            done = 0;
            while (done < MOST_STEPS && told.canDo(nexts[done])) {
                step(told, trail);
                done++;
            }
            trail.ofRun = trail.size;
            if (done == MOST_STEPS) {
                reason = OUT_OF_STEPS;
            } else {
                reason = told.hasOp(nexts[done]) ? AT_STOP : AT_NO_OP;
            }
        }

        void step(Told told, Trail trail) {
            int op = nexts[done];
            int from = REGISTERS * done;
            System.arraycopy(registers, from, registers, from + REGISTERS, REGISTERS);
            if (told.branches(op)) {
                trail.add(op, told.takes(op, registers, from) ? 1 : 0, done);
            }
            nexts[done + 1] = told.perform(op, registers, from + REGISTERS);
        }

        /** How many OPS are done from where a wrong GUESS led. */
        int wander(Told told, int step, int taken) {
            System.arraycopy(registers, REGISTERS * step, strayed, 0, REGISTERS);
            int op = taken == 1 ? nexts[step] + 1 : told.target(nexts[step]);
            int strays = 0;
            while (strays < told.head[HEAD_DEEP] && told.canDo(op) && !told.branches(op)) {
                op = told.perform(op, strayed, 0);
                strays++;
            }
            return strays;
        }
    }

    /** All BRANCHES in order, of RUN and of acts, and what was said of each. */
    private static final class Trail {
        final int[] facts = new int[FACTS * MOST_BRANCHES];
        int size;
        int ofRun;

        void clear() {
            size = 0;
            ofRun = 0;
        }

        void add(int address, int taken, int step) {
            if (size >= MOST_BRANCHES) {
                return;
            }
            set(size, FACT_ADDRESS, address);
            set(size, FACT_TAKEN, taken);
            set(size, FACT_STEP, step);
            size++;
        }

        void note(int branch, Guesser guesser) {
            set(branch, FACT_GUESS, guesser.answer);
            set(branch, FACT_PROVIDER, guesser.tables.provider);
            set(branch, FACT_ALTERNATE, guesser.tables.alternate);
            set(branch, FACT_WEAK, guesser.tables.weak ? 1 : 0);
            set(branch, FACT_FIRST, guesser.tables.first);
            set(branch, FACT_WHO, guesser.who);
        }

        int fact(int branch, int what) {
            return facts[FACTS * branch + what];
        }

        void set(int branch, int what, int value) {
            facts[FACTS * branch + what] = value;
        }

        boolean isWrong(int branch) {
            return fact(branch, FACT_GUESS) != fact(branch, FACT_TAKEN);
        }

        int wrongsAt(int address) {
            int wrongs = 0;
            for (int b = 0; b < size; b++) {
                if (isWrong(b) && fact(b, FACT_ADDRESS) == address) {
                    wrongs++;
                }
            }
            return wrongs;
        }

        int countOf(int what, int value) {
            int found = 0;
            for (int b = 0; b < size; b++) {
                if (fact(b, what) == value) {
                    found++;
                }
            }
            return found;
        }
    }

    /** All that guesses and learns: BASE and TABLES, LOOPS, CORRECTOR, by the HISTORY of a MOMENT. */
    private static final class Guesser {
        final Tables tables = new Tables();
        final Loops loops = new Loops();
        final Corrector corrector = new Corrector();
        int parts;
        /** HISTORY; the longest span needs 40 of its bits. */
        long past;
        int moment;
        int address;
        int answer;
        int who;

        void setAs(Told told) {
            tables.setAs(told);
            parts = told.head[HEAD_PARTS];
            clear();
        }

        void clear() {
            tables.clear();
            loops.clear();
            corrector.clear();
            past = 0;
            moment = 0;
        }

        boolean has(int part) {
            return (parts & part) != 0;
        }

        /** Answers the GUESS; nothing is learnt. */
        int ask(int asked) {
            address = asked;
            tables.look(asked, past, has(PART_TRUST));
            corrector.weigh(asked, past, tables.first);
            answer = has(PART_LOOPS) ? loops.say(asked) : NONE;
            who = BY_LOOPS;
            if (answer == NONE) {
                answer = has(PART_CORRECTOR) ? corrector.say() : NONE;
                who = BY_CORRECTOR;
            }
            if (answer == NONE) {
                answer = tables.first;
                who = BY_FIRST;
            }
            return answer;
        }

        /** By what the BRANCH was that was asked for last. */
        void learn(int taken) {
            if (has(PART_LOOPS)) {
                loops.learn(address, taken, answer != taken);
            }
            if (has(PART_CORRECTOR)) {
                corrector.learn(taken);
            }
            tables.learn(taken, has(PART_TRUST));
            if (tables.first != taken) {
                tables.takeRow(address, past, taken);
            }
            past = past << 1 | taken;
            moment++;
        }
    }

    /** BASE and TABLES; below, table 0 is BASE. */
    private static final class Tables {
        static final int BASES = 16;
        static final int MOST_TRUST = 15;
        static final int MOST_USE = 3;

        int rowBits;
        int tagBits;
        int age;
        int last;
        int leftOut;
        final int[] spans = new int[MOST_TABLES + 1];

        /** TAGS, NONE: the ROW is EMPTY, and has COUNT and USE 0. */
        final int[] tags = new int[MOST_ROWS * MOST_TABLES];
        final int[] counts = new int[MOST_ROWS * MOST_TABLES];
        final int[] uses = new int[MOST_ROWS * MOST_TABLES];
        final int[] bases = new int[BASES];
        int trust;
        int strain;
        int halvings;

        /** Of the ADDRESS that was asked for last, by TABLE. */
        final int[] places = new int[MOST_TABLES + 1];
        int baseAt;
        int provider;
        int alternate;
        boolean weak;
        int first;

        void setAs(Told told) {
            rowBits = told.head[HEAD_ROWS];
            tagBits = told.head[HEAD_TAG];
            age = told.head[HEAD_AGE];
            last = told.tables;
            leftOut = NONE;
            System.arraycopy(told.spans, 0, spans, 0, spans.length);
        }

        void clear() {
            Arrays.fill(tags, NONE);
            Arrays.fill(counts, 0);
            Arrays.fill(uses, 0);
            Arrays.fill(bases, 1);
            trust = 8;
            strain = 0;
            halvings = 0;
        }

        int indexOf(int table, int address, long past) {
            int mixed = address ^ address >> rowBits ^ folded(past, spans[table], rowBits) ^ table;
            return mixed & lowest(rowBits);
        }

        int tagOf(int table, int address, long past) {
            int mixed = address ^ folded(past, spans[table], tagBits) ^ 2 * folded(past, spans[table], tagBits - 1);
            return mixed & lowest(tagBits);
        }

        void look(int address, long past, boolean trusting) {
            baseAt = address % BASES;
            provider = 0;
            alternate = 0;
            for (int t = 1; t <= last; t++) {
                if (t == leftOut) {
                    continue;
                }
                places[t] = MOST_ROWS * (t - 1) + indexOf(t, address, past);
                int tag = tags[places[t]];
                if (tag != NONE && tag == tagOf(t, address, past)) {
                    alternate = provider;
                    provider = t;
                }
            }
            weak = provider > 0 && uses[places[provider]] == 0 && within(counts[places[provider]], -1, 0);
            first = says(weak && trusting && trust > 7 ? alternate : provider);
        }

        int says(int table) {
            boolean taken = table == 0 ? bases[baseAt] >= 2 : counts[places[table]] >= 0;
            return taken ? 1 : 0;
        }

        void learn(int taken, boolean trusting) {
            int said = says(provider);
            int saidElse = says(alternate);
            if (trusting && weak && said != saidElse) {
                trust = bounded(trust + (saidElse == taken ? 1 : -1), 0, MOST_TRUST);
            }
            if (provider > 0 && said != saidElse) {
                int use = uses[places[provider]] + (said == taken ? 1 : -1);
                uses[places[provider]] = bounded(use, 0, MOST_USE);
            }
            move(provider, taken);
            if (weak) {
                move(alternate, taken);
            }
        }

        void move(int table, int taken) {
            int by = taken == 1 ? 1 : -1;
            if (table == 0) {
                bases[baseAt] = bounded(bases[baseAt] + by, 0, 3);
            } else {
                counts[places[table]] = bounded(counts[places[table]] + by, -4, 3);
            }
        }

        /** If what was said first was wrong. */
        void takeRow(int address, long past, int taken) {
            boolean above = false;
            for (int t = provider + 1; t <= last; t++) {
                if (t == leftOut) {
                    continue;
                }
                above = true;
                if (uses[places[t]] == 0) {
                    tags[places[t]] = tagOf(t, address, past);
                    counts[places[t]] = taken == 1 ? 0 : -1;
                    return;
                }
            }
            if (above) {
                strainRows();
            }
        }

        void strainRows() {
            for (int t = provider + 1; t <= last; t++) {
                if (t != leftOut) {
                    uses[places[t]]--;
                }
            }
            strain++;
            if (strain == age) {
                for (int i = 0; i < uses.length; i++) {
                    uses[i] /= 2;
                }
                strain = 0;
                halvings++;
            }
        }

        int heldWithin(int from, int end) {
            int held = 0;
            for (int i = from; i < end; i++) {
                if (tags[i] != NONE) {
                    held++;
                }
            }
            return held;
        }
    }

    /** LOOPS; a ROW without an owner is EMPTY. */
    private static final class Loops {
        static final int ROWS = 8;
        static final int MOST_SURE = 3;
        static final int NEW_AGE = 3;
        static final int TOO_LONG = 60;

        final int[] owners = new int[ROWS];
        final int[] lengths = new int[ROWS];
        final int[] runs = new int[ROWS];
        final int[] sures = new int[ROWS];
        final int[] ages = new int[ROWS];

        void clear() {
            for (int i = 0; i < ROWS; i++) {
                give(i, NONE, 0);
            }
        }

        void give(int i, int owner, int age) {
            owners[i] = owner;
            lengths[i] = NONE;
            runs[i] = 0;
            sures[i] = 0;
            ages[i] = age;
        }

        int say(int address) {
            int i = address % ROWS;
            if (owners[i] != address || sures[i] < MOST_SURE) {
                return NONE;
            }
            return runs[i] < lengths[i] ? 1 : 0;
        }

        void learn(int address, int taken, boolean wrong) {
            int i = address % ROWS;
            if (owners[i] == address) {
                if (taken == 1) {
                    goOn(i);
                } else {
                    leave(i);
                }
            } else if (wrong) {
                if (ages[i] > 0) {
                    ages[i]--;
                } else {
                    give(i, address, NEW_AGE);
                }
            }
        }

        void goOn(int i) {
            runs[i]++;
            if (lengths[i] != NONE && runs[i] > lengths[i]) {
                lengths[i] = NONE;
                sures[i] = 0;
            }
            if (runs[i] == TOO_LONG) {
                give(i, NONE, 0);
            }
        }

        /** A ROW without LENGTH has NONE there, which no RUN is. */
        void leave(int i) {
            if (runs[i] == lengths[i]) {
                sures[i] = Math.min(MOST_SURE, sures[i] + 1);
            } else {
                lengths[i] = runs[i];
                sures[i] = 0;
            }
            runs[i] = 0;
        }
    }

    /** CORRECTOR. */
    private static final class Corrector {
        static final int ROWS = 3;
        static final int WIDTH = 16;
        static final int MOST_LIMIT = 15;
        static final int ENOUGH = 12;

        final int[] counts = new int[ROWS * WIDTH];
        int limit;

        /** Of the ADDRESS that was asked for last. */
        final int[] places = new int[ROWS];
        int first;
        int total;

        void clear() {
            Arrays.fill(counts, 0);
            limit = 4;
        }

        void weigh(int address, long past, int firstSaid) {
            first = firstSaid;
            places[0] = 2 * (address % 8) + first;
            places[1] = WIDTH + ((address ^ (int) past) & 15);
            places[2] = 2 * WIDTH + ((address ^ folded(past, 12, 4)) & 15);
            total = first == 1 ? 6 : -6;
            for (int r = 0; r < ROWS; r++) {
                total += 2 * counts[places[r]] + 1;
            }
        }

        int side() {
            return total > 0 ? 1 : 0;
        }

        int say() {
            return side() != first && Math.abs(total) >= limit ? side() : NONE;
        }

        void learn(int taken) {
            boolean right = side() == taken;
            if (side() != first) {
                limit = bounded(limit + (right ? -1 : 1), 1, MOST_LIMIT);
            }
            if (!right || Math.abs(total) < ENOUGH) {
                for (int r = 0; r < ROWS; r++) {
                    counts[places[r]] = bounded(counts[places[r]] + (taken == 1 ? 1 : -1), -8, 7);
                }
            }
        }
    }

    /** SLOTS; NONE as a length: it has nothing. */
    private static final class Slots {
        final int[] widths = new int[SLOTS];
        final int[] lengths = new int[SLOTS];
        final long[] numbers = new long[SLOTS * MOST_NUMBERS];

        Slots() {
            Arrays.fill(lengths, NONE);
        }

        boolean hasRow(int slot) {
            return lengths[slot] != NONE;
        }

        int used() {
            int used = 0;
            for (int s = 0; s < SLOTS; s++) {
                if (hasRow(s)) {
                    used++;
                }
            }
            return used;
        }

        void renew(int slot, int width, int n) {
            widths[slot] = width;
            lengths[slot] = n;
            Arrays.fill(numbers, MOST_NUMBERS * slot, MOST_NUMBERS * (slot + 1), 0);
        }

        void set(int slot, int i, long v) {
            numbers[MOST_NUMBERS * slot + i] = widths[slot] == 0 ? (int) v : v;
        }

        long at(int slot, int i) {
            return numbers[MOST_NUMBERS * slot + i];
        }

        boolean allWithin(int slot, int most) {
            for (int i = 0; i < lengths[slot]; i++) {
                if (!within(at(slot, i), 0, most)) {
                    return false;
                }
            }
            return true;
        }
    }
}
