/** Terms II, VI and VII: RUN, WRONG WAYS, PATTERNS. */
final class RunEdges {
    private static final String HEAD = Programs.head(1, 2, 1, 3, 1, 0);
    /** 199 OPS: 2 to fill the REGISTERS, 98 rounds of two OPS, one more. */
    private static final String LONG_199 = "put 0 99;add 1 1;below 1 0 1;";

    private final Edges e;

    RunEdges(Edges edges) {
        e = edges;
    }

    void all() {
        registers();
        sums();
        jumps();
        ends();
        branches();
        wrongWays();
        patterns();
    }

    private void registers() {
        e.says("II", "RUN: REGISTERS 0 .. 7 are 0");
        Asked x = e.of(HEAD + "put 0 1;put 7 2;");
        x.load(HEAD + "stop;");
        for (int r = 0; r <= 7; r++) {
            x.due(0, "register", r, 0);
        }
        x.due(-2, "register", 8, 0).due(-2, "register", -1, 0);

        e.says("II", "OPS are done from OP 0 on, one behind the other.");
        x = e.of(HEAD + "put 0 5;put 1 6;put 7 7;");
        int[][] due = {{0, 0, 0}, {5, 0, 0}, {5, 6, 0}, {5, 6, 7}};
        for (int s = 0; s <= 3; s++) {
            x.due(s, "next", s).due(due[s][0], "register", 0, s).due(due[s][1], "register", 1, s);
            x.due(due[s][2], "register", 7, s);
        }
        x.due(3, "steps");
    }

    /** What REGISTER 0 is in the end. */
    private void gives(String ops, int want) {
        Asked x = e.of(HEAD + ops);
        long steps = x.call("steps");
        e.due("REGISTER 0 behind " + ops, x.call("register", 0, steps), want);
        e.due("why behind " + ops, x.call("why"), 2);
    }

    private void sums() {
        e.says("II", "put: R is N.");
        gives("put 0 0;", 0);
        gives("put 0 999;", 999);
        gives("put 0 999;put 0 1;", 1);
        e.of(HEAD + "put 7 999;").due(999, "register", 7, 1).due(0, "register", 6, 1).due(0, "register", 0, 1);

        e.says("II", "add: R is N more, take: N less, copy: R is S, sum: R is S more, less: S less; all modulo 1,000 "
            + "(0 .. 999).");
        gives("add 0 0;", 0);
        gives("add 0 999;", 999);
        gives("put 0 500;add 0 499;", 999);
        gives("put 0 500;add 0 500;", 0);
        gives("put 0 999;add 0 999;", 998);
        gives("take 0 0;", 0);
        gives("put 0 5;take 0 5;", 0);
        gives("put 0 5;take 0 6;", 999);
        gives("take 0 999;", 1);
        gives("put 0 999;take 0 999;", 0);
        gives("put 7 999;copy 0 7;", 999);
        gives("put 0 5;copy 0 7;", 0);
        gives("put 0 5;copy 0 0;", 5);
        gives("put 0 500;put 7 499;sum 0 7;", 999);
        gives("put 0 500;put 7 500;sum 0 7;", 0);
        gives("put 0 999;put 7 999;sum 0 7;", 998);
        gives("put 0 999;sum 0 0;", 998);
        gives("put 0 5;put 7 5;less 0 7;", 0);
        gives("put 0 5;put 7 6;less 0 7;", 999);
        gives("put 7 999;less 0 7;", 1);
        gives("put 0 999;less 0 0;", 0);
        Asked x = e.of(HEAD + "put 0 1;put 7 2;sum 0 7;less 0 7;copy 0 7;add 0 1;take 0 1;");
        for (int s = 2; s <= 7; s++) {
            x.due(2, "register", 7, s);
        }
    }

    /** A BRANCH of two REGISTERS at OP 2. */
    private void branch(String op, int left, int right, int taken) {
        Asked x = e.of(HEAD + "put 0 " + left + ";put 1 " + right + ";" + op + " 5;stop;stop;stop;");
        x.due(1, "count", 8).due(taken, "branch", 0, 1).due(taken == 1 ? 5 : 3, "next", 3);
        x.due(left, "register", 0, 3).due(right, "register", 1, 3);
    }

    private void jumps() {
        e.says("II", "go: L is next.");
        e.of(HEAD + "go 0;").due(200, "steps").due(0, "next", 1).due(0, "next", 200).due(0, "count", 8);
        e.of(HEAD + "go 2;stop;go 1;").due(2, "next", 1).due(1, "next", 2).due(2, "steps").due(1, "why");
        e.of(HEAD + "go 39;").due(39, "next", 1).due(1, "steps").due(2, "why");
        e.of(HEAD + "go 1;").due(1, "next", 1).due(1, "steps").due(2, "why");

        e.says("II", "below, if R is below S, same, if R is S, odd, if R is odd: L is next (it is TAKEN), else the one "
            + "behind it.");
        int[][] pairs = {{0, 0}, {0, 1}, {1, 0}, {998, 999}, {999, 999}, {999, 998}, {999, 0}, {0, 999}};
        for (int[] pair : pairs) {
            branch("below 0 1", pair[0], pair[1], pair[0] < pair[1] ? 1 : 0);
            branch("below 1 0", pair[0], pair[1], pair[1] < pair[0] ? 1 : 0);
            branch("same 0 1", pair[0], pair[1], pair[0] == pair[1] ? 1 : 0);
            branch("below 0 0", pair[0], pair[1], 0);
            branch("same 1 1", pair[0], pair[1], 1);
            branch("odd 0", pair[0], pair[1], pair[0] % 2);
            branch("odd 1", pair[0], pair[1], pair[1] % 2);
        }
        e.of(HEAD + "same 0 0 39;").due(39, "next", 1).due(2, "why").due(1, "count", 8);
        e.of(HEAD + "odd 0 39;").due(1, "next", 1).due(2, "why").due(1, "count", 8);
        // L may be the one behind it: it is next either way, and TAKEN or not.
        e.of(HEAD + "same 0 0 1;").due(1, "branch", 0, 1).due(1, "next", 1);
        e.of(HEAD + "odd 0 1;").due(0, "branch", 0, 1).due(1, "next", 1);
    }

    private void ends() {
        e.says("II", "It ends, 3: behind 200 OPS, whatever is next; else 1: ahead of a stop; 2: at a number that has no "
            + "OP.");
        e.of(HEAD).due(0, "steps").due(2, "why").due(0, "next", 0);
        e.of(HEAD + "stop;").due(0, "steps").due(1, "why").due(0, "next", 0);
        e.of(HEAD + LONG_199).due(199, "steps").due(2, "why").due(3, "next", 199);
        e.of(HEAD + LONG_199 + "stop;").due(199, "steps").due(1, "why").due(3, "next", 199);
        e.of(HEAD + LONG_199 + "go 39;").due(200, "steps").due(3, "why").due(39, "next", 200);
        e.of(HEAD + LONG_199 + "add 0 0;").due(200, "steps").due(3, "why").due(4, "next", 200);
        e.of(HEAD + LONG_199 + "add 0 0;stop;").due(200, "steps").due(3, "why").due(4, "next", 200);
        e.of(HEAD + LONG_199 + "go 3;").due(200, "steps").due(3, "why").due(3, "next", 200);
        StringBuilder puts = new StringBuilder(HEAD);
        for (int i = 0; i < 39; i++) {
            puts.append("add 0 1;");
        }
        e.of(puts + "add 0 1;").due(40, "steps").due(2, "why").due(40, "next", 40).due(40, "register", 0, 40);
        e.of(puts + "stop;").due(39, "steps").due(1, "why").due(39, "next", 39);

        e.says("II", "STEP s: behind the first s OPS.");
        Asked x = e.of(HEAD + "add 0 3;add 0 4;");
        x.due(0, "register", 0, 0).due(3, "register", 0, 1).due(7, "register", 0, 2).due(-2, "register", 0, 3);
        x.due(-2, "register", 0, -1).due(0, "next", 0).due(2, "next", 2).due(-2, "next", 3).due(-2, "next", -1);
        x = e.of(HEAD + "go 0;");
        x.due(0, "next", 200).due(-2, "next", 201).due(0, "register", 7, 200).due(-2, "register", 7, 201);
    }

    private void branches() {
        e.says("II", "BRANCHES 0, 1, .. are the below, same, odd of RUN, in order (ADDRESS: the OP's number), those of "
            + "acts behind them (ADDRESS 0 .. 63).");
        Asked x = e.of(HEAD + "odd 0 5;same 0 0 3;stop;below 0 1 9;go 5;put 0 1;odd 0 7;stop;");
        x.due(4, "count", 8);
        int[][] due = {{0, 0, 0}, {1, 1, 1}, {3, 0, 2}, {6, 1, 5}};
        for (int b = 0; b < 4; b++) {
            x.due(due[b][0], "branch", b, 0).due(due[b][1], "branch", b, 1).due(due[b][2], "branch", b, 8);
        }
        x.due(-2, "branch", 4, 0);
        x.acts(0, "T").acts(63, "N");
        x.due(0, "branch", 4, 0).due(1, "branch", 4, 1).due(-1, "branch", 4, 8);
        x.due(63, "branch", 5, 0).due(0, "branch", 5, 1).due(-1, "branch", 5, 8).due(-2, "branch", 6, 0);
        x.due(-2, "meets", 64, 0).due(-2, "meets", -1, 0).due(4, "count", 8).due(2, "count", 9);
        StringBuilder text = new StringBuilder(HEAD);
        for (int i = 0; i < 39; i++) {
            text.append("stop;");
        }
        e.of(text.toString().replaceFirst("stop", "go 39") + "odd 0 0;").due(39, "branch", 0, 0).due(1, "count", 8);
        x = e.of(HEAD + "odd 0 1;odd 0 0;go 0;");
        x.due(134, "count", 8).due(1, "branch", 133, 0).due(199, "branch", 133, 8).due(-2, "branch", 134, 0);
        e.of(HEAD + "put 0 1;go 0;").due(0, "count", 8).due(-2, "branch", 0, 0).due(-2, "branch", -1, 0);

        e.says("II", "MOMENT m: behind the first m BRANCHES.");
        x = e.of(HEAD).due(0, "wrong", 0).due(-2, "wrong", 1).due(-2, "wrong", -1);
        x.acts(5, "TN");
        x.due(1, "base", 5, 0).due(2, "base", 5, 1).due(1, "base", 5, 2).due(-2, "base", 5, 3);
        x = e.of(HEAD + "same 0 0 0;").acts(5, "N".repeat(40));
        x.due(1, "base", 5, 200).due(0, "base", 5, 201).due(0, "base", 5, 240).due(-2, "base", 5, 241);
        x.due(1, "base", 0, 0).due(3, "base", 0, 2).due(3, "base", 0, 200).due(-2, "base", 0, -1);
    }

    private Asked deep(int deep, String ops) {
        return e.of(Programs.head(1, 2, 1, 3, deep, 0) + ops);
    }

    private void wrongWays() {
        e.says("VI", "WRONG WAY: behind a BRANCH of RUN of which GUESS was wrong OPS are done from where GUESS led");
        // Guessed not TAKEN, and TAKEN: OP 1 is on the wrong way.
        Asked x = deep(9, "same 0 0 3;put 5 7;stop;stop;");
        x.due(0, "branch", 0, 2).due(1, "strays", 0).due(7, "stray", 0, 5).due(0, "stray", 0, 4);
        // Guessed TAKEN, and not: L is on the wrong way. OP 1 is met with REGISTER 1 0, 1, 2.
        x = deep(9, "put 0 2;below 1 0 3;stop;add 1 1;add 5 1;go 1;");
        x.due(3, "count", 8).due(1, "branch", 1, 2).due(1, "branch", 2, 2).due(0, "branch", 2, 1);
        x.due(0, "strays", 0).due(0, "stray", 0, 5).due(0, "strays", 1).due(-1, "stray", 1, 5);
        x.due(3, "strays", 2).due(3, "stray", 2, 1).due(3, "stray", 2, 5).due(2, "stray", 2, 0);
        // An act has none, be its GUESS wrong.
        x.due(0, "meets", 9, 1).due(-2, "strays", 3).due(-2, "stray", 3, 0);

        e.says("VI", ", D at most, no further than ahead of a BRANCH, a stop, a number that has no OP");
        for (int d = 0; d <= 9; d++) {
            deep(d, "same 0 0 3;add 5 1;go 1;stop;").due(d, "strays", 0).due((d + 1) / 2, "stray", 0, 5);
            deep(d, "same 0 0 2;go 1;stop;").due(d, "strays", 0);
            for (String end : new String[] {"odd 0 0;", "same 0 0 0;", "below 0 0 0;", "stop;", "go 39;", ""}) {
                // Three OPS, then what ends it; a go that leads to a number that has no OP is done itself.
                String way = "add 5 1;add 5 1;add 5 1;" + end;
                x = deep(d, "go 5;" + way + (end.isEmpty() ? "go 30;" : "") + "same 0 0 35;go 1;");
                int most = end.startsWith("go") || end.isEmpty() ? 5 : 4;
                x.due(1, "count", 8).due(Math.min(d, most), "strays", 0);
                x.due(Math.min(Math.max(d - 1, 0), 3), "stray", 0, 5);
            }
            deep(d, "same 0 0 2;stop;stop;").due(0, "strays", 0);
            deep(d, "same 0 0 2;odd 0 0;stop;").due(0, "strays", 0);
            deep(d, "same 0 0 30;").due(0, "strays", 0).due(0, "stray", 0, 0);
        }
        // 40 OPS: behind the last one there is none.
        StringBuilder last = new StringBuilder("go 38;");
        for (int i = 1; i < 38; i++) {
            last.append("stop;");
        }
        deep(9, last + "same 0 0 1;put 5 7;").due(1, "strays", 0).due(7, "stray", 0, 5);

        e.says("VI", "then REGISTERS are put back, and RUN goes on (these are no STEPS).");
        x = deep(9, "put 5 1;same 0 0 5;put 5 9;put 6 9;go 2;add 5 1;");
        x.due(9, "strays", 0).due(9, "stray", 0, 5).due(9, "stray", 0, 6);
        x.due(3, "steps").due(1, "register", 5, 2).due(0, "register", 6, 2).due(2, "register", 5, 3);
        x.due(0, "register", 6, 3).due(5, "next", 2).due(6, "next", 3);
        // Behind the 200th OP, too.
        x = deep(9, "add 1 10;below 0 1 0;put 4 7;stop;");
        x.due(199, "branch", 99, 8).due(0, "branch", 99, 1).due(1, "branch", 99, 2);
        x.due(1, "strays", 99).due(10, "stray", 99, 1).due(0, "stray", 99, 4).due(200, "steps");
    }

    private void patterns() {
        e.says("VII", "PATTERN: an ADDRESS, 1 .. 16 bits (bits 0 .. n less 1, others 0)");
        Asked x = e.of(HEAD);
        x.due(-2, "round", 0, 0, 0, 0).due(0, "round", 0, 0, 1, 0).due(1, "round", 0, 1, 1, 0);
        x.due(-2, "round", 0, 2, 1, 0).due(-2, "round", 0, -1, 1, 0).due(-2, "round", 0, 1 << 17, 17, 0);
        x.due(0, "round", 0, 0, 16, 0).due(1, "round", 0, 65535, 16, 0).due(-2, "round", 0, 65536, 16, 0);
        x.due(-2, "round", 0, 0, 17, 0).due(1, "round", 63, 1 << 15, 16, 0).due(-2, "round", 64, 0, 16, 0);
        x.due(-2, "round", -1, 0, 1, 0).due(-2, "round", 0, -1, 16, 0).due(-2, "round", 0, -32768, 16, 0);

        e.says("VII", "on a GUESSER as at MOMENT 0 BRANCHES are at that ADDRESS as the bits say (1 TAKEN), bit 0 first, "
            + "again and again");
        int[][] all = {{0, 1, 1}, {5, 1, 2}, {9, 2, 2}, {63, 6, 3}, {33, 19, 5}, {7, 77, 10}, {8, 4660, 15}};
        for (int parts = 0; parts <= 7; parts++) {
            for (int[] one : all) {
                x = e.of(Programs.head(2, 3, 2, 0, 0, parts) + "span 2;span 5;put 0 3;add 1 1;below 1 0 1;");
                likeARow(x.acts(5, "TNTNT"), one[0], one[1], one[2]);
            }
        }

        e.says("VII", "ROUNDS 0 .. 29.");
        x = e.of(HEAD);
        x.due(-2, "round", 0, 1, 1, -1).due(1, "round", 0, 1, 1, 0).due(0, "round", 0, 1, 1, 29);
        x.due(-2, "round", 0, 1, 1, 30).due(2, "round", 0, 1, 2, 29).due(-1, "learnt", 0, 1, 2);
    }

    /** The ROUNDS of a PATTERN are wrong as often as a row of the same BRANCHES, up to each ROUND that it holds. */
    private void likeARow(Asked x, int address, int bits, int n) {
        x.call("row", 0, 1, 60 / n * n);
        long sum = 0;
        for (int i = 0; i < 60 / n * n; i++) {
            x.call("write", 0, i, 2 * address + (bits >> i % n & 1));
        }
        for (int r = 0; r < Math.min(30, 60 / n); r++) {
            sum += x.call("round", address, bits, n, r);
        }
        if (n > 1) {
            x.due(sum, "trace", 0);
        }
        x.call("row", 0, 1, n);
        for (int i = 0; i < n; i++) {
            x.call("write", 0, i, 2 * address + (bits >> i & 1));
        }
        x.due(x.call("round", address, bits, n, 0), "trace", 0);
    }
}
