/** Promises 1 to 10: the TAPE, the PROGRAM, RUN. */
final class TapeEdges {
    private static final String HEAD = Programs.head(1, 2, 1, 3, 1, 0);
    static final String LOOP = Programs.head(2, 3, 2, 4, 3, 0) + "put 0 3;add 1 1;below 1 0 1;stop;";
    private static final int BLANKS = 0x20202020;

    private final Edges e;

    TapeEdges(Edges edges) {
        e = edges;
    }

    void all() {
        newObject();
        feed();
        end();
        program();
        faults();
        op();
        stepsAndWhy();
        nextAndRegister();
    }

    private void newObject() {
        e.says("1", "No PROGRAM.");
        Asked x = e.fresh();
        for (int what = 0; what <= 12; what++) {
            x.due(0, "count", what);
        }
        x.due(-2, "steps").due(-2, "wrong", 0).due(-2, "meets", 0, 0).due(-2, "undo").due(-2, "anew");
        x.due(-6, "back", 0).due(-6, "back", 1).due(-6, "back", 2).due(0, "program").due(-2, "steps");
    }

    private void feed() {
        e.says("2", "Twenty bytes come behind the TAPE");
        Asked x = e.fresh();
        x.due(0, "count", 11).due(20, "feed", 0, 0, 0, 0, 0).due(20, "count", 11);
        x.due(40, "feed", -1, -1, -1, -1, -1).due(40, "count", 11);
        x = e.fresh();
        x.tape(HEAD);
        x.tape("stop;");
        x.due(2, "program").due(10, "op", 0, 0);

        e.says("2", "four of each number, the highest first");
        for (int place = 0; place < 20; place++) {
            for (int sign : new int[] {'$', 0, 127, 128, 255}) {
                long[] five = {BLANKS, BLANKS, BLANKS, BLANKS, BLANKS};
                int shift = 24 - 8 * (place % 4);
                five[place / 4] = BLANKS & ~(255 << shift) | sign << shift;
                x = e.fresh();
                x.due(20, "feed", BLANKS, BLANKS, BLANKS, BLANKS, BLANKS).due(40, "feed", five);
                x.due(-4, "program").due(1, "fault", 0).due(20 + place, "fault", 1);
            }
        }

        e.says("2", "how many it has");
        x = e.fresh();
        for (int i = 1; i <= 40; i++) {
            x.due(20 * i, "feed", BLANKS, BLANKS, BLANKS, BLANKS, BLANKS);
        }
        x = e.fresh();
        x.due(20, "feed", 0, 0, 0, 0, 0).due(7, "end", 7).due(27, "feed", 0, 0, 0, 0, 0);

        e.says("2", "NONE, and none come, if it would have more than 800.");
        String text = HEAD + " ".repeat(795 - HEAD.length()) + "stop;";
        x = e.fresh();
        x.tape(text);
        x.due(800, "count", 11).due(-1, "feed", 0, 0, 0, 0, 0).due(800, "count", 11);
        x.due(-1, "feed", BLANKS, BLANKS, BLANKS, BLANKS, BLANKS).due(800, "count", 11).due(2, "program");
        for (int had = 780; had <= 800; had++) {
            x = e.fresh();
            x.tape(HEAD + " ".repeat(had - HEAD.length()));
            x.due(had, "count", 11).due(had == 780 ? 800 : -1, "feed", 0, 0, 0, 0, 0);
            x.due(had == 780 ? 800 : had, "count", 11);
            x.due(had == 780 ? -4 : 1, "program").due(had == 780 ? 780 : -1, "fault", 1);
        }
    }

    private void end() {
        e.says("3", "The TAPE has its first n bytes alone: n");
        String text = HEAD + "stop;stop;";
        for (int n = 0; n <= text.length(); n++) {
            Asked x = e.fresh();
            x.tape(text);
            x.due(n, "end", n).due(n, "count", 11);
            int lines = n == 0 ? 0 : n == HEAD.length() ? 1 : n == HEAD.length() + 5 ? 2 : n == text.length() ? 3 : -4;
            x.due(lines, "program");
        }
        // Of what was cut off nothing is read, be it within a word or a number.
        String longer = HEAD + "span 12;put 1 234;below 1 1 39; stop ;";
        for (int n = 0; n <= longer.length(); n++) {
            Asked cut = e.fresh();
            cut.tape(longer);
            cut.due(n, "end", n);
            Asked told = e.fresh();
            told.tape(longer.substring(0, n));
            cut.due(told.call("program"), "program");
            cut.due(told.call("fault", 0), "fault", 0).due(told.call("fault", 1), "fault", 1);
        }
        for (int n = 1; n <= 3; n++) {
            Asked cut = e.fresh();
            cut.tape(HEAD + "put 1 234;");
            cut.due(HEAD.length() + 6 + n, "end", HEAD.length() + 6 + n).due(-4, "program").due(1, "fault", 0);
            cut.due(HEAD.length() + 6 + n, "fault", 1);
        }
        Asked x = e.fresh();
        x.tape(text);
        x.due(text.length(), "end", text.length()).due(3, "end", 3).due(0, "end", 0).due(0, "end", 0);
        x.tape(HEAD);
        x.due(1, "program");

        e.says("3", "NONE, and nothing happens, if it has not so many, or n is below 0.");
        x = e.fresh();
        x.due(-1, "end", 1).due(-1, "end", -1).due(0, "end", 0).due(0, "count", 11);
        x.tape(text);
        x.due(-1, "end", text.length() + 1).due(-1, "end", -1).due(-1, "end", 800);
        x.due(-1, "end", Integer.MAX_VALUE).due(-1, "end", Integer.MIN_VALUE);
        x.due(text.length(), "count", 11).due(3, "program");
        x.due(-1, "end", 1).due(0, "end", 0);
        x.tape(" ".repeat(800));
        x.due(-1, "end", 801).due(800, "end", 800).due(800, "count", 11);
        // What was cut off is not there again.
        x = e.fresh();
        x.tape(text);
        x.due(3, "end", 3).due(-1, "end", 4).due(3, "count", 11);
    }

    private void program() {
        e.says("4", "The TAPE (empty then) is the PROGRAM (in place of another), no acts");
        Asked x = e.of(LOOP);
        x.due(0, "count", 11).acts(7, "TTT").due(3, "count", 9);
        x.load(HEAD + "span 4;go 9;");
        x.due(0, "count", 11).due(0, "count", 9).due(1, "count", 0).due(1, "count", 6).due(1, "count", 7);
        x.due(0, "count", 8).due(9, "op", 0, 0).due(-2, "op", 1, 0).due(-2, "branch", 0, 0).due(1, "steps");
        x.due(0, "meets", 7, 1).due(3, "count", 10);

        e.says("4", "how many LINES (0: there is none then).");
        for (int lines = 2; lines <= 41; lines++) {
            x = e.fresh();
            e.due("LINES", x.load(HEAD + "stop;".repeat(lines - 1)), lines);
            x.due(lines, "count", 10);
        }
        for (String nothing : new String[] {"", " ", "\n", " \n ".repeat(200)}) {
            x = e.of(LOOP);
            x.acts(7, "T");
            e.due("LINES of nothing", x.load(nothing), 0);
            x.due(-2, "steps").due(-2, "op", 0, 0).due(0, "fault", 0).due(-1, "fault", 1);
            for (int what = 0; what <= 12; what++) {
                x.due(0, "count", what);
            }
        }

        e.says("4", "-4: a FAULT (all stays).");
        x = e.of(LOOP);
        x.acts(7, "TT").row(2, 1, 5, 6).due(0, "image", 1);
        for (String bad : new String[] {"x", HEAD + "halt;", HEAD + "go 40;", HEAD + "stop;".repeat(41), HEAD + "stop"}) {
            e.due("of " + bad, x.load(bad), -4);
            int[] counts = {2, 3, 2, 4, 3, 0, 0, 4, 3, 2, 5, 0, 1};
            for (int what = 0; what <= 12; what++) {
                x.due(counts[what], "count", what);
            }
            x.due(1, "op", 1, 0).due(7, "steps").due(7, "branch", 4, 0).due(3, "wrong", 5).due(6, "number", 2, 1);
        }
        x = e.fresh();
        e.due("of x", x.load("x"), -4);
        x.due(-2, "steps").due(0, "count", 10);
    }

    private void faults() {
        e.says("5", "Of the latest program(), what 0: its FAULT, 0 without, 1: its place (NONE without).");
        Asked x = e.fresh();
        x.load("  x");
        x.due(1, "fault", 0).due(2, "fault", 1);
        x.load(HEAD + "go 40");
        x.due(2, "fault", 0).due(HEAD.length() + 3, "fault", 1);
        x.load(HEAD + "stop;".repeat(40) + "stop;");
        x.due(3, "fault", 0).due(HEAD.length() + 200, "fault", 1);
        x.tape(HEAD);
        x.due(3, "fault", 0).due(HEAD.length() + 200, "fault", 1).due(1, "program").due(0, "fault", 0);
        x.due(-1, "fault", 1);
        x.load("x");
        x.due(1, "fault", 0).due(0, "fault", 1).due(0, "program").due(0, "fault", 0).due(-1, "fault", 1);

        e.says("5", "NONE for another what, and ahead of any (what 1).");
        x = e.fresh();
        x.due(0, "fault", 0).due(-1, "fault", 1).due(-1, "fault", 2).due(-1, "fault", -1);
        x.load("  x");
        x.due(-1, "fault", 2).due(-1, "fault", -1).due(-1, "fault", Integer.MAX_VALUE);
        x.due(-1, "fault", Integer.MIN_VALUE);
    }

    private void op() {
        e.says("6", "Of an OP, what 0: its kind (0 put, 1 add, 2 take, 3 copy, 4 sum, 5 less, 6 below, 7 same, 8 odd, 9 go, "
            + "10 stop), 1 .. 3: its numbers (NONE: it has none such).");
        Asked x = e.of(HEAD + "put 1 12;add 2 13;take 3 14;copy 4 5;sum 6 7;less 0 1;below 2 3 4;same 5 6 7;odd 1 39;go 38;"
            + "stop;");
        int[][] due = {{0, 1, 12, -1}, {1, 2, 13, -1}, {2, 3, 14, -1}, {3, 4, 5, -1}, {4, 6, 7, -1}, {5, 0, 1, -1},
            {6, 2, 3, 4}, {7, 5, 6, 7}, {8, 1, 39, -1}, {9, 38, -1, -1}, {10, -1, -1, -1}};
        for (int op = 0; op <= 10; op++) {
            for (int what = 0; what <= 3; what++) {
                x.due(due[op][what], "op", op, what);
            }
        }
        // Numbers of another PROGRAM's OPS are gone.
        x.load(HEAD + "stop;".repeat(11));
        for (int op = 0; op <= 10; op++) {
            x.due(-1, "op", op, 1).due(-1, "op", op, 2).due(-1, "op", op, 3);
        }

        e.says("6", "-2: there are none such.");
        x = e.of(HEAD + "put 1 12;stop;");
        e.bounds(x, -2, 0, 0, 1, "op", 0, 0);
        e.bounds(x, -2, 1, 0, 3, "op", 0, 0);
        e.of(HEAD).due(-2, "op", 0, 0).due(-2, "op", -1, 0);
        x = e.of(HEAD + "stop;".repeat(40));
        e.bounds(x, -2, 0, 0, 39, "op", 0, 0);
        e.refusedWithoutProgram(-2, "op", 0, 0);
    }

    private void stepsAndWhy() {
        e.says("7", "How many STEPS RUN has.");
        e.of(HEAD).due(0, "steps");
        e.of(HEAD + "stop;").due(0, "steps");
        e.of(HEAD + "put 0 0;").due(1, "steps");
        e.of(LOOP).due(7, "steps").acts(2, "TNT").due(7, "steps");
        e.of(HEAD + "put 0 99;add 1 1;below 1 0 1;").due(199, "steps");
        e.of(HEAD + "put 0 99;add 1 1;below 1 0 1;add 0 0;").due(200, "steps");
        e.of(HEAD + "go 0;").due(200, "steps");
        e.says("7", "-2: there is no PROGRAM.");
        e.refusedWithoutProgram(-2, "steps");

        e.says("8", "Why it ends (1 .. 3).");
        e.of(HEAD + "stop;").due(1, "why");
        e.of(HEAD).due(2, "why");
        e.of(HEAD + "go 1;").due(2, "why");
        e.of(HEAD + "go 0;").due(3, "why");
        e.of(LOOP).due(1, "why").acts(2, "T").due(1, "why");
        e.says("8", "-2 likewise.");
        e.refusedWithoutProgram(-2, "why");
    }

    private void nextAndRegister() {
        e.says("9", "The number of the OP that is next at a STEP (whether there is one or not).");
        Asked x = e.of(LOOP);
        int[] next = {0, 1, 2, 1, 2, 1, 2, 3};
        for (int s = 0; s <= 7; s++) {
            x.due(next[s], "next", s);
        }
        e.of(HEAD).due(0, "next", 0);
        e.of(HEAD + "go 39;").due(39, "next", 1);
        e.of(HEAD + "put 0 0;").due(1, "next", 1);
        e.of(HEAD + "stop;").due(0, "next", 0);
        e.says("9", "-2: there is no such STEP, no PROGRAM.");
        e.bounds(e.of(LOOP), -2, 0, 0, 7, "next", 0);
        e.bounds(e.of(HEAD), -2, 0, 0, 0, "next", 0);
        e.bounds(e.of(HEAD + "go 0;"), -2, 0, 0, 200, "next", 0);
        e.refusedWithoutProgram(-2, "next", 0);

        e.says("10", "A REGISTER at a STEP.");
        int[] one = {0, 0, 1, 1, 2, 2, 3, 3};
        for (int s = 0; s <= 7; s++) {
            x.due(s == 0 ? 0 : 3, "register", 0, s).due(one[s], "register", 1, s).due(0, "register", 7, s);
        }
        e.of(HEAD + "put 7 999;").due(0, "register", 7, 0).due(999, "register", 7, 1);
        x = e.of(HEAD + "add 7 1;go 0;");
        x.due(100, "register", 7, 200).due(100, "register", 7, 199).due(99, "register", 7, 198);
        e.says("10", "-2: there are none such, no PROGRAM.");
        x = e.of(LOOP);
        e.bounds(x, -2, 0, 0, 7, "register", 0, 0);
        e.bounds(x, -2, 1, 0, 7, "register", 0, 0);
        e.bounds(e.of(HEAD + "go 0;"), -2, 1, 0, 200, "register", 7, 0);
        e.refusedWithoutProgram(-2, "register", 0, 0);
    }
}
