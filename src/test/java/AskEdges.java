/** Promises 11 to 35: BRANCHES, the GUESSER at a MOMENT, WRONG WAYS. */
final class AskEdges {
    private static final String HEAD = Programs.head(1, 2, 1, 3, 1, 0);
    private static final String LOOP = TapeEdges.LOOP;
    /** Two TABLES, no OPS. */
    private static final String TABLES = Programs.head(2, 3, 1, 0, 0, 0) + "span 1;span 3;";
    private static final String FIVE = "span 1;span 2;span 3;span 4;span 40;";
    /** 200 BRANCHES at 0, all TAKEN. */
    private static final String FOREVER = Programs.head(4, 6, 9, 20, 9, 7) + FIVE + "same 0 0 0;";

    private final Edges e;

    AskEdges(Edges edges) {
        e = edges;
    }

    void all() {
        branch();
        wrong();
        wrongsAndWorst();
        streak();
        saidAndGained();
        provided();
        history();
        indexAndTag();
        providers();
        guessAndAdds();
        entry();
        held();
        baseAndGauge();
        loop();
        corrector();
        clash();
        strays();
    }

    /** 240 BRANCHES. */
    private Asked full() {
        return e.of(FOREVER).acts(63, "NNNNT".repeat(8));
    }

    private void branch() {
        e.says("11", "Of a BRANCH (of RUN, of acts), what 0: its ADDRESS, 1: 1 TAKEN, 0 not, 2: its GUESS (1 TAKEN, 0 not), "
            + "3: PROVIDER, 4: ALTERNATE, 5: 1 if WEAK, else 0, 6: FIRST, 7: by whom GUESS was said (0 FIRST, 1 LOOPS, 2 "
            + "CORRECTOR), 8: the STEP ahead of it (NONE: of an act).");
        Asked x = e.of(LOOP).acts(63, "N");
        int[][] due = {{2, 1, 0, 0, 0, 0, 0, 0, 2}, {2, 1, 1, 0, 0, 0, 1, 0, 4}, {2, 0, 1, 0, 0, 0, 1, 0, 6},
            {63, 0, 0, 0, 0, 0, 0, 0, -1}};
        for (int b = 0; b < 4; b++) {
            for (int what = 0; what <= 8; what++) {
                x.due(due[b][what], "branch", b, what);
            }
        }
        // By hand in PromisesTest: a WEAK PROVIDER; one with an ALTERNATE that is a TABLE.
        x = e.of(TABLES).acts(5, "TTTNTTNTT");
        int[] weak = {5, 1, 1, 1, 0, 1, 1, 0, -1};
        int[] both = {5, 1, 1, 2, 1, 1, 1, 0, -1};
        for (int what = 0; what <= 8; what++) {
            x.due(weak[what], "branch", 4, what).due(both[what], "branch", 8, what);
        }
        x = e.of(Programs.head(1, 2, 1, 0, 0, 2)).acts(0, "TNTNTNT");
        int[] corrected = {0, 1, 1, 0, 0, 0, 0, 2, -1};
        for (int what = 0; what <= 8; what++) {
            x.due(corrected[what], "branch", 6, what);
        }
        x = e.of(Programs.head(1, 2, 1, 0, 0, 1)).acts(3, "TNTNTNTNTNT");
        int[] counted = {3, 1, 1, 0, 0, 0, 0, 1, -1};
        for (int what = 0; what <= 8; what++) {
            x.due(counted[what], "branch", 10, what);
        }
        full().due(63, "branch", 239, 0).due(1, "branch", 239, 1).due(-1, "branch", 200, 8).due(199, "branch", 199, 8);

        e.says("11", "-2: there are none such.");
        x = e.of(LOOP);
        e.bounds(x, -2, 0, 0, 2, "branch", 0, 0);
        e.bounds(x, -2, 1, 0, 8, "branch", 0, 0);
        x.acts(5, "T");
        e.bounds(x, -2, 0, 0, 3, "branch", 0, 0);
        x.call("undo");
        e.bounds(x, -2, 0, 0, 2, "branch", 0, 0);
        e.bounds(full(), -2, 0, 0, 239, "branch", 0, 0);
        e.of(HEAD).due(-2, "branch", 0, 0).due(-2, "branch", -1, 0);
        e.refusedWithoutProgram(-2, "branch", 0, 0);
    }

    private void wrong() {
        e.says("12", "How many of the BRANCHES by a MOMENT were guessed wrong.");
        Asked x = e.of(LOOP).acts(7, "TTN");
        int[] due = {0, 1, 1, 2, 3, 3, 4};
        for (int m = 0; m <= 6; m++) {
            x.due(due[m], "wrong", m);
        }
        e.of(HEAD).due(0, "wrong", 0);
        x = e.of(HEAD).acts(0, "N".repeat(40)).due(0, "wrong", 40);
        x = e.of(HEAD).acts(0, "TN".repeat(20)).due(40, "wrong", 40);

        e.says("12", "-2: there is no such MOMENT, no PROGRAM.");
        e.bounds(e.of(LOOP), -2, 0, 0, 3, "wrong", 0);
        e.bounds(e.of(HEAD), -2, 0, 0, 0, "wrong", 0);
        e.bounds(full(), -2, 0, 0, 240, "wrong", 0);
        e.refusedWithoutProgram(-2, "wrong", 0);
    }

    private void wrongsAndWorst() {
        e.says("13", "How many of all at an ADDRESS (0 .. 63).");
        Asked x = e.of(LOOP).acts(0, "T").acts(63, "TNTN").acts(2, "N");
        x.due(1, "wrongs", 0).due(0, "wrongs", 1).due(3, "wrongs", 2).due(4, "wrongs", 63).due(0, "wrongs", 62);
        e.says("13", "-2: there is none such, no PROGRAM.");
        e.bounds(x, -2, 0, 0, 63, "wrongs", 0);
        e.refusedWithoutProgram(-2, "wrongs", 0);

        e.says("14", "The ADDRESS at which most were, the least of several.");
        x.due(63, "worst");
        e.of(LOOP).due(2, "worst").acts(1, "TN").due(1, "worst").acts(0, "TN").due(0, "worst").acts(63, "TN")
            .due(0, "worst").acts(63, "T").due(63, "worst");
        e.of(HEAD).acts(63, "T").due(63, "worst").acts(62, "T").due(62, "worst");
        e.of(HEAD).acts(63, "T").acts(61, "T").due(61, "worst");
        e.of(HEAD).acts(0, "T").due(0, "worst");
        e.says("14", "NONE: none was; -2: there is no PROGRAM.");
        e.of(HEAD).due(-1, "worst").acts(5, "NNN").due(-1, "worst");
        e.refusedWithoutProgram(-2, "worst");
    }

    private void streak() {
        e.says("15", "The most BRANCHES one behind the other that were guessed right.");
        e.of(HEAD).due(0, "streak").acts(0, "T").due(0, "streak");
        e.of(HEAD).acts(0, "N").due(1, "streak");
        e.of(HEAD).acts(0, "NNN").acts(1, "T").acts(0, "NN").due(3, "streak");
        e.of(HEAD).acts(0, "NN").acts(1, "T").acts(0, "NNN").due(3, "streak");
        e.of(HEAD).acts(0, "N".repeat(40)).due(40, "streak");
        e.of(HEAD + "same 0 0 0;").due(199, "streak").acts(0, "T".repeat(40)).due(239, "streak");
        e.of(LOOP).due(1, "streak");
        e.says("15", "-2 likewise.");
        e.refusedWithoutProgram(-2, "streak");
    }

    private void saidAndGained() {
        e.says("16", "How many GUESSES were said by one (0 FIRST, 1 LOOPS, 2 CORRECTOR).");
        Asked x = e.of(Programs.head(1, 2, 1, 0, 0, 2)).acts(0, "TNTNTNT");
        x.due(6, "said", 0).due(0, "said", 1).due(1, "said", 2);
        Asked y = e.of(Programs.head(1, 2, 1, 0, 0, 1)).acts(3, "TNTNTNTNTNTN");
        y.due(10, "said", 0).due(2, "said", 1).due(0, "said", 2);
        e.of(HEAD).due(0, "said", 0).due(0, "said", 1).due(0, "said", 2);
        e.of(HEAD + "same 0 0 0;").acts(0, "T".repeat(40)).due(240, "said", 0);
        e.says("16", "-2: there is none such, no PROGRAM.");
        e.bounds(x, -2, 0, 0, 2, "said", 0);
        e.refusedWithoutProgram(-2, "said", 0);

        e.says("17", "GUESSES said by one that were right where FIRST was wrong, less those that were wrong where it was "
            + "right.");
        x.due(0, "gained", 0).due(0, "gained", 1).due(1, "gained", 2).call("undo");
        x.acts(0, "N").due(-1, "gained", 2).due(0, "gained", 0);
        y.due(2, "gained", 1).acts(3, "N").due(1, "gained", 1).due(0, "gained", 2);
        e.of(HEAD).acts(0, "TNTN").due(0, "gained", 0).due(0, "gained", 1).due(0, "gained", 2);
        gainsOfScenes();
        e.says("17", "-1,000 likewise.");
        e.bounds(x, -1000, 0, 0, 2, "gained", 0);
        e.refusedWithoutProgram(-1000, "gained", 0);
    }

    /** GUESSES by LOOPS that are as FIRST count for nothing. */
    private void gainsOfScenes() {
        for (int i = 0; i < Scenes.TEXTS.length; i++) {
            int[] gained = new int[3];
            Asked x = e.of(Scenes.TEXTS[i]).acts(Scenes.ACTS[i]);
            long all = x.call("count", 8) + 40;
            for (int b = 0; b < all; b++) {
                if (b % 80 == 0) {
                    x = e.of(Scenes.TEXTS[i]).acts(Scenes.ACTS[i]);
                }
                long taken = x.call("branch", b, 1);
                boolean right = x.call("branch", b, 2) == taken;
                boolean firstRight = x.call("branch", b, 6) == taken;
                gained[(int) x.call("branch", b, 7)] += right == firstRight ? 0 : right ? 1 : -1;
            }
            x = e.of(Scenes.TEXTS[i]).acts(Scenes.ACTS[i]);
            x.due(gained[0], "gained", 0).due(gained[1], "gained", 1).due(gained[2], "gained", 2);
        }
    }

    private void provided() {
        e.says("18", "How many BRANCHES have a TABLE (0: BASE) as PROVIDER.");
        Asked x = e.of(TABLES).acts(5, "TTTNTTNTT");
        // By hand in PromisesTest: TABLE 1 at 4, 5, 6, 7, TABLE 2 at 8.
        x.due(4, "provided", 0).due(4, "provided", 1).due(1, "provided", 2);
        e.of(HEAD).due(0, "provided", 0).acts(5, "TN").due(2, "provided", 0);
        e.of(FOREVER).acts(0, "T").due(0, "provided", 5);
        e.says("18", "-2: there is none such, no PROGRAM.");
        e.bounds(x, -2, 0, 0, 2, "provided", 0);
        e.bounds(e.of(HEAD), -2, 0, 0, 0, "provided", 0);
        e.bounds(full(), -2, 0, 0, 5, "provided", 0);
        e.refusedWithoutProgram(-2, "provided", 0);
    }

    private void history() {
        e.says("19", "The lowest n (0 .. 30) bits of HISTORY at a MOMENT.");
        Asked x = e.of(LOOP).acts(5, "T");
        int[] past = {0, 1, 3, 6, 13};
        for (int m = 0; m <= 4; m++) {
            for (int n = 0; n <= 4; n++) {
                x.due(past[m] & (1 << n) - 1, "history", m, n);
            }
            x.due(past[m], "history", m, 30);
        }
        x = full();
        for (int n = 0; n <= 30; n++) {
            x.due((1 << n) - 1, "history", 200, n);
        }
        x.due((1 << 29) - 1, "history", 29, 30).due((1 << 30) - 1, "history", 30, 30);
        x.due((1 << 30) - 1, "history", 31, 30).due(0b000010000100001000010000100001, "history", 240, 30);
        e.says("19", "-2: there are none such, no PROGRAM.");
        e.bounds(x, -2, 0, 0, 240, "history", 0, 0);
        e.bounds(x, -2, 1, 0, 30, "history", 240, 0);
        e.bounds(e.of(HEAD), -2, 0, 0, 0, "history", 0, 30);
        e.refusedWithoutProgram(-2, "history", 0, 0);

        e.says("20", "FOLD of a span (1 .. 40) to n (1 .. 10) bits at a MOMENT.");
        x = full();
        x.due(1, "fold", 1, 1, 1).due(0, "fold", 0, 1, 1).due(1, "fold", 1, 1, 10).due(1, "fold", 1, 40, 10);
        x.due(0, "fold", 200, 40, 1).due(1, "fold", 200, 39, 1).due(0, "fold", 40, 40, 10);
        x.due(512, "fold", 39, 40, 10).due(512, "fold", 200, 39, 10).due(1023, "fold", 200, 10, 10);
        x.due(511, "fold", 200, 9, 10).due(1022, "fold", 200, 11, 10).due(6, "fold", 200, 40, 3);
        e.says("20", "-2 likewise.");
        e.bounds(x, -2, 0, 0, 240, "fold", 0, 40, 10);
        e.bounds(x, -2, 1, 1, 40, "fold", 240, 1, 10);
        e.bounds(x, -2, 2, 1, 10, "fold", 240, 40, 1);
        e.refusedWithoutProgram(-2, "fold", 0, 1, 1);
    }

    private void indexAndTag() {
        e.says("21", "INDEX of an ADDRESS (0 .. 63) in a TABLE (from 1) at a MOMENT.");
        Asked x = e.of(TABLES).acts(5, "TN");
        // 5 is 01 and 1: INDEX 0 and k, FOLD 0; then HISTORY 1: FOLD 1; then 10: FOLD of 1 0, of 3 2.
        x.due(1, "index", 1, 5, 0).due(2, "index", 2, 5, 0).due(0, "index", 1, 5, 1).due(3, "index", 2, 5, 1);
        x.due(1, "index", 1, 5, 2).due(0, "index", 2, 5, 2).due(1, "index", 1, 0, 0).due(2, "index", 2, 63, 0);
        e.says("21", "-2 likewise.");
        e.bounds(x, -2, 0, 1, 2, "index", 1, 0, 0);
        e.bounds(x, -2, 1, 0, 63, "index", 2, 0, 2);
        e.bounds(x, -2, 2, 0, 2, "index", 1, 63, 0);
        e.bounds(full(), -2, 0, 1, 5, "index", 1, 0, 240);
        e.bounds(full(), -2, 2, 0, 240, "index", 5, 63, 0);
        e.of(HEAD).due(-2, "index", 1, 0, 0).due(-2, "index", 0, 0, 0);
        e.refusedWithoutProgram(-2, "index", 1, 0, 0);

        e.says("22", "Its TAG.");
        x.due(5, "tag", 1, 5, 0).due(5, "tag", 2, 5, 0).due(6, "tag", 1, 5, 1).due(6, "tag", 2, 5, 1);
        x.due(5, "tag", 1, 5, 2).due(3, "tag", 2, 5, 2).due(7, "tag", 1, 63, 0).due(0, "tag", 1, 0, 0);
        e.says("22", "-2 likewise.");
        e.bounds(x, -2, 0, 1, 2, "tag", 1, 0, 0);
        e.bounds(x, -2, 1, 0, 63, "tag", 2, 0, 2);
        e.bounds(x, -2, 2, 0, 2, "tag", 1, 63, 0);
        e.bounds(full(), -2, 0, 1, 5, "tag", 1, 0, 240);
        e.of(HEAD).due(-2, "tag", 1, 0, 0).due(-2, "tag", 0, 0, 0);
        e.refusedWithoutProgram(-2, "tag", 1, 0, 0);
    }

    /** Of a call with an ADDRESS and a MOMENT. */
    private void addressAndMoment(long refusal, String name) {
        Asked x = e.of(LOOP).acts(63, "T");
        e.bounds(x, refusal, 0, 0, 63, name, 0, 0);
        e.bounds(x, refusal, 0, 0, 63, name, 0, 4);
        e.bounds(x, refusal, 1, 0, 4, name, 0, 0);
        e.bounds(full(), refusal, 1, 0, 240, name, 63, 0);
        e.bounds(e.of(HEAD), refusal, 1, 0, 0, name, 63, 0);
        e.refusedWithoutProgram(refusal, name, 0, 0);
    }

    private void providers() {
        e.says("23", "PROVIDER, were a BRANCH at an ADDRESS (0 .. 63) guessed at a MOMENT (nothing is learnt).");
        Asked x = e.of(TABLES).acts(5, "TTTNTTNT");
        x.due(0, "provider", 5, 0).due(1, "provider", 5, 4).due(2, "provider", 5, 8).due(0, "provider", 6, 8);
        x.due(0, "provider", 63, 8).due(0, "provider", 0, 8);
        for (int a = 0; a <= 63; a++) {
            x.call("provider", a, 8);
        }
        x.due(2, "provider", 5, 8).due(-1, "entry", 1, 3, 0, 8).due(8, "count", 9);
        Asked y = e.of(TABLES).acts(5, "TTTNTTNT");
        for (int i = 0; i < 16; i++) {
            e.due("BASE " + i, x.call("base", i, 8), y.call("base", i, 8));
            e.due("ROW " + i, x.call("entry", 1 + i / 8, i % 4, i / 4 % 2, 8), y.call("entry", 1 + i / 8, i % 4, i / 4 % 2, 8));
        }
        e.says("23", "-2 likewise.");
        addressAndMoment(-2, "provider");

        e.says("24", "ALTERNATE likewise.");
        x = e.of(TABLES).acts(5, "TTTNTTNT");
        x.due(0, "alternate", 5, 0).due(0, "alternate", 5, 4).due(1, "alternate", 5, 8).due(0, "alternate", 6, 8);
        e.says("24", "-2 likewise.");
        addressAndMoment(-2, "alternate");
    }

    private void guessAndAdds() {
        e.says("25", "GUESS likewise (1 TAKEN, 0 not).");
        Asked x = e.of(LOOP).acts(63, "T");
        x.due(0, "guess", 2, 0).due(1, "guess", 2, 1).due(1, "guess", 2, 2).due(1, "guess", 2, 3).due(0, "guess", 0, 4);
        x.due(1, "guess", 63, 4).due(0, "guess", 63, 3).due(1, "guess", 15, 4).due(1, "guess", 18, 4);
        for (int i = 0; i < Scenes.TEXTS.length; i++) {
            Asked y = e.of(Scenes.TEXTS[i]).acts(Scenes.ACTS[i]);
            for (long b = y.call("count", 8); y.calls() < 400; b -= 7) {
                if (b < 0) {
                    break;
                }
                long guess = y.call("branch", b, 2);
                y.due(guess, "guess", y.call("branch", b, 0), b);
            }
        }
        e.says("25", "-2 likewise.");
        addressAndMoment(-2, "guess");

        e.says("26", "SUM likewise (whether P has CORRECTOR or not).");
        for (int p = 0; p <= 7; p++) {
            x = e.of(Programs.head(1, 2, 1, 0, 0, p));
            x.due(-3, "adds", 0, 0).due(-3, "adds", 63, 0).acts(9, "TT");
            x.due(p / 2 % 2 == 1 ? 11 : 9, "adds", 9, 2);
        }
        e.says("26", "-1,000: there are none such, no PROGRAM.");
        addressAndMoment(-1000, "adds");
    }

    private void entry() {
        e.says("27", "Of ROW i (from 0) of a TABLE (from 1) at a MOMENT, what 0: its TAG (NONE: it is EMPTY), 1: its COUNT, "
            + "2: its USE (0 each: it is EMPTY).");
        Asked x = e.of(TABLES).acts(5, "TNT");
        int[][] rows = {{6, -1, 0}, {5, 1, 1}, {-1, 0, 0}, {-1, 0, 0}};
        for (int i = 0; i < 4; i++) {
            for (int what = 0; what < 3; what++) {
                x.due(rows[i][what], "entry", 1, i, what, 3).due(what == 0 ? -1 : 0, "entry", 2, i, what, 3);
                x.due(what == 0 ? -1 : 0, "entry", 1, i, what, 0);
            }
        }
        e.says("27", "-1,000: there are none such, no PROGRAM.");
        e.bounds(x, -1000, 0, 1, 2, "entry", 1, 0, 0, 0);
        for (int rowBits = 1; rowBits <= 4; rowBits++) {
            Asked y = e.of(Programs.head(rowBits, 2, 1, 0, 0, 0) + FIVE);
            e.bounds(y, -1000, 0, 1, 5, "entry", 1, (1 << rowBits) - 1, 2, 0);
            e.bounds(y, -1000, 1, 0, (1 << rowBits) - 1, "entry", 5, 0, 0, 0);
        }
        e.bounds(x, -1000, 2, 0, 2, "entry", 1, 0, 0, 0);
        e.bounds(x, -1000, 3, 0, 3, "entry", 1, 0, 0, 0);
        e.bounds(full(), -1000, 3, 0, 240, "entry", 5, 15, 2, 0);
        e.of(HEAD).due(-1000, "entry", 1, 0, 0, 0).due(-1000, "entry", 0, 0, 0, 0);
        e.refusedWithoutProgram(-1000, "entry", 1, 0, 0, 0);
    }

    private void held() {
        e.says("28", "How many ROWS of a TABLE (from 1; 0: of all) are not EMPTY at a MOMENT.");
        Asked x = e.of(TABLES).acts(5, "TTTNTT");
        // TABLE 1 takes its ROWS at 0 and 3, TABLE 2 at 5.
        int[][] due = {{0, 0}, {1, 0}, {1, 0}, {1, 0}, {2, 0}, {2, 0}, {2, 1}};
        for (int m = 0; m <= 6; m++) {
            x.due(due[m][0], "held", 1, m).due(due[m][1], "held", 2, m).due(due[m][0] + due[m][1], "held", 0, m);
        }
        e.of(Programs.head(1, 2, 1, 0, 0, 0) + "span 1;").acts(3, "TN").due(2, "held", 1, 2).due(2, "held", 0, 2);
        e.of(HEAD).due(0, "held", 0, 0).acts(3, "T").due(0, "held", 0, 1);
        for (int i = 0; i < Scenes.TEXTS.length; i++) {
            Asked y = e.of(Scenes.TEXTS[i]).acts(Scenes.ACTS[i]);
            long all = 0;
            long end = y.call("count", 8) + 40;
            for (int t = 1; t <= y.call("count", 6); t++) {
                long held = 0;
                for (int row = 0; row < 1 << y.call("count", 0); row++) {
                    held += y.call("entry", t, row, 0, end) == -1 ? 0 : 1;
                }
                y.due(held, "held", t, end);
                all += held;
            }
            y.due(all, "held", 0, end);
        }
        e.says("28", "-2: there are none such, no PROGRAM.");
        e.bounds(x, -2, 0, 0, 2, "held", 0, 6);
        e.bounds(x, -2, 1, 0, 6, "held", 2, 0);
        e.bounds(full(), -2, 0, 0, 5, "held", 0, 240);
        e.bounds(e.of(HEAD), -2, 0, 0, 0, "held", 0, 0);
        e.refusedWithoutProgram(-2, "held", 0, 0);
    }

    private void baseAndGauge() {
        e.says("29", "COUNT i (0 .. 15) of BASE at a MOMENT.");
        Asked x = e.of(HEAD).acts(0, "TTT").acts(63, "NN");
        int[] zero = {1, 2, 3, 3, 3, 3};
        int[] last = {1, 1, 1, 1, 0, 0};
        for (int m = 0; m <= 5; m++) {
            x.due(zero[m], "base", 0, m).due(last[m], "base", 15, m).due(1, "base", 1, m);
        }
        e.says("29", "-2 likewise.");
        e.bounds(x, -2, 0, 0, 15, "base", 0, 5);
        e.bounds(x, -2, 1, 0, 5, "base", 15, 0);
        e.bounds(full(), -2, 1, 0, 240, "base", 15, 0);
        e.refusedWithoutProgram(-2, "base", 0, 0);

        e.says("30", "At a MOMENT, what 0: TRUST, 1: STRAIN, 2: LIMIT, 3: how often USES were halved by then.");
        x = e.of(Programs.head(1, 2, 1, 0, 0, 4) + "span 1;").acts(3, "TNT");
        x.due(8, "gauge", 0, 0).due(0, "gauge", 1, 0).due(4, "gauge", 2, 0).due(0, "gauge", 3, 0);
        x.due(8, "gauge", 0, 2).due(7, "gauge", 0, 3);
        for (int age = 1; age <= 9; age++) {
            x = e.of(Programs.head(1, 2, age, 5, 2, 0) + "span 1;").acts(3, "TNT").acts(1, "T");
            x.due(0, "gauge", 1, 3).due(0, "gauge", 3, 3).due(age == 1 ? 0 : 1, "gauge", 1, 4);
            x.due(age == 1 ? 1 : 0, "gauge", 3, 4).due(8, "gauge", 0, 4).due(4, "gauge", 2, 4);
        }
        x = e.of(Programs.head(1, 2, 1, 0, 0, 2)).acts(0, "TNTNT");
        x.due(4, "gauge", 2, 4).due(3, "gauge", 2, 5);
        e.says("30", "-2 likewise.");
        e.bounds(x, -2, 0, 0, 3, "gauge", 0, 5);
        e.bounds(x, -2, 1, 0, 5, "gauge", 3, 0);
        e.bounds(full(), -2, 1, 0, 240, "gauge", 3, 0);
        e.refusedWithoutProgram(-2, "gauge", 0, 0);
    }

    private void loop() {
        e.says("31", "Of ROW i (0 .. 7) of LOOPS at a MOMENT, what 0: its ADDRESS (NONE: it is EMPTY), 1: LENGTH (NONE: "
            + "none), 2: RUN, 3: SURE (0 each: it is EMPTY), 4: AGE.");
        Asked x = e.of(Programs.head(1, 2, 1, 0, 0, 1)).acts(63, "TTNTN").acts(0, "T");
        int[][] rows = {{-1, -1, 0, 0, 0}, {63, -1, 0, 0, 3}, {63, -1, 1, 0, 3}, {63, 1, 0, 0, 3}, {63, 1, 1, 0, 3},
            {63, 1, 0, 1, 3}, {63, 1, 0, 1, 3}};
        for (int m = 0; m <= 6; m++) {
            for (int what = 0; what < 5; what++) {
                x.due(rows[m][what], "loop", 7, what, m);
            }
        }
        x.due(-1, "loop", 0, 0, 5).due(0, "loop", 0, 0, 6).due(3, "loop", 0, 4, 6);
        e.says("31", "-2 likewise.");
        e.bounds(x, -2, 0, 0, 7, "loop", 0, 2, 6);
        e.bounds(x, -2, 1, 0, 4, "loop", 7, 0, 6);
        e.bounds(x, -2, 2, 0, 6, "loop", 7, 4, 0);
        e.bounds(full(), -2, 2, 0, 240, "loop", 7, 4, 0);
        e.refusedWithoutProgram(-2, "loop", 0, 0, 0);
    }

    private void corrector() {
        e.says("32", "COUNT i (0 .. 15) of ROW row (0 .. 2) of CORRECTOR at a MOMENT.");
        Asked x = e.of(Programs.head(1, 2, 1, 0, 0, 2)).acts(0, "TN").acts(15, "N");
        // 15: FIRST not TAKEN, HISTORY 10, its FOLD 2: the places 14, 13, 13; SUM is -3, it learns.
        int[][] due = {{0, 0, 1}, {1, 0, 1}, {2, 0, 1}, {0, 1, -1}, {1, 1, -1}, {2, 1, -1}, {0, 14, -1}, {1, 13, -1},
            {2, 13, -1}, {0, 15, 0}, {1, 15, 0}, {2, 15, 0}};
        for (int[] one : due) {
            x.due(one[2], "corrector", one[0], one[1], 3).due(0, "corrector", one[0], one[1], 0);
        }
        e.says("32", "-1,000: there are none such, no PROGRAM.");
        e.bounds(x, -1000, 0, 0, 2, "corrector", 0, 15, 3);
        e.bounds(x, -1000, 1, 0, 15, "corrector", 2, 0, 3);
        e.bounds(x, -1000, 2, 0, 3, "corrector", 2, 15, 0);
        e.bounds(full(), -1000, 2, 0, 240, "corrector", 2, 15, 0);
        e.refusedWithoutProgram(-1000, "corrector", 0, 0, 0);
    }

    private void clash() {
        e.says("33", "In how many TABLES two ADDRESSES (0 .. 63) have one INDEX and one TAG at a MOMENT.");
        Asked x = e.of(TABLES).acts(5, "TN");
        x.due(2, "clash", 5, 21, 0).due(2, "clash", 21, 5, 2).due(2, "clash", 63, 63, 0).due(2, "clash", 0, 0, 2);
        // 5 and 13 have one TAG (of 3 bits), no INDEX; 5 and 0 one INDEX (01 and 1 are 0), no TAG.
        x.due(0, "clash", 5, 13, 0).due(0, "clash", 5, 0, 0).due(0, "clash", 0, 63, 0);
        e.of(HEAD).due(0, "clash", 0, 0, 0).due(0, "clash", 63, 63, 0);
        full().due(5, "clash", 63, 63, 240).due(0, "clash", 0, 63, 240);
        e.says("33", "-2: there are none such, no PROGRAM.");
        e.bounds(x, -2, 0, 0, 63, "clash", 0, 63, 2);
        e.bounds(x, -2, 1, 0, 63, "clash", 63, 0, 2);
        e.bounds(x, -2, 2, 0, 2, "clash", 63, 0, 0);
        e.bounds(full(), -2, 2, 0, 240, "clash", 63, 0, 0);
        e.refusedWithoutProgram(-2, "clash", 0, 0, 0);
    }

    private void strays() {
        e.says("34", "How many OPS were done on a BRANCH's WRONG WAY (0: its GUESS was right).");
        Asked x = e.of(LOOP);
        x.due(0, "strays", 0).due(0, "strays", 1).due(1, "strays", 2);
        for (int d = 0; d <= 9; d++) {
            e.of(Programs.head(1, 2, 1, 0, d, 0) + "same 0 0 2;go 1;stop;").due(d, "strays", 0);
        }
        e.says("34", "-2: there is no such BRANCH of RUN.");
        x.acts(5, "T");
        e.bounds(x, -2, 0, 0, 2, "strays", 0);
        e.bounds(full(), -2, 0, 0, 199, "strays", 0);
        e.of(HEAD).due(-2, "strays", 0).due(-2, "strays", -1).acts(5, "T").due(-2, "strays", 0);
        e.refusedWithoutProgram(-2, "strays", 0);

        e.says("35", "What a REGISTER was at its end.");
        x = e.of(LOOP);
        x.due(3, "stray", 0, 0).due(1, "stray", 0, 1).due(0, "stray", 0, 7);
        x.due(3, "stray", 2, 0).due(4, "stray", 2, 1).due(0, "stray", 2, 7);
        e.of(Programs.head(1, 2, 1, 0, 9, 0) + "same 0 0 2;add 7 111;stop;").due(111, "stray", 0, 7);
        e.says("35", "NONE: its GUESS was right; -2: there are none such.");
        x.due(-1, "stray", 1, 0).due(-1, "stray", 1, 7).due(-2, "stray", 1, 8).due(-2, "stray", 1, -1);
        e.bounds(x, -2, 0, 0, 2, "stray", 0, 0);
        e.bounds(x, -2, 1, 0, 7, "stray", 0, 0);
        x.acts(5, "T").due(-2, "stray", 3, 0);
        e.bounds(full(), -2, 0, 0, 199, "stray", 0, 7);
        e.of(HEAD).due(-2, "stray", 0, 0).due(-2, "stray", -1, 0);
        e.refusedWithoutProgram(-2, "stray", 0, 0);
    }
}
