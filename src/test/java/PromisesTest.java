/** Each promise by answers that were worked out by hand from the document. */
public final class PromisesTest {
    private static final Check CHECK = new Check();

    /** RUN: 0 1 2 1 2 1 2, ahead of the stop at 3; BRANCHES at 2: TAKEN, TAKEN, not. */
    private static final String LOOP =
        "guesser rows 2 tag 3 age 2 cost 4 deep 3 parts 0;put 0 3;add 1 1;below 1 0 1;stop;";
    /** Two TABLES, no OPS. */
    private static final String TABLES = "guesser rows 2 tag 3 age 1 cost 0 deep 0 parts 0;span 1;span 3;";
    /** 200 BRANCHES at 0, all TAKEN. */
    private static final String FOREVER = "guesser rows 2 tag 3 age 1 cost 0 deep 9 parts 1;same 0 0 0;";

    private static BranchGuess of(String text) {
        BranchGuess x = new BranchGuess();
        int answer = Programs.load(x, text);
        CHECK.holds("this can be read: " + text, answer >= 0);
        return x;
    }

    private static String bare(int parts) {
        return "guesser rows 1 tag 2 age 1 cost 3 deep 1 parts " + parts + ";";
    }

    /** BRANCHES at an ADDRESS: T TAKEN, else not. */
    private static void act(BranchGuess x, int address, String acts) {
        for (int i = 0; i < acts.length(); i++) {
            x.meets(address, acts.charAt(i) == 'T' ? 1 : 0);
        }
    }

    private static void due(int promise, String what, long got, long want) {
        CHECK.due(promise, what, got, want);
    }

    private static void faulty(String text, int fault, int place) {
        BranchGuess x = of(LOOP);
        act(x, 9, "TT");
        due(4, "program() of " + text, Programs.load(x, text), -4);
        due(5, "fault(0) of " + text, x.fault(0), fault);
        due(5, "fault(1) of " + text, x.fault(1), place);
        due(4, "LINES stay behind " + text, x.count(10), 5);
        due(4, "acts stay behind " + text, x.count(9), 2);
        due(4, "BRANCHES stay behind " + text, x.branch(3, 0), 9);
        due(4, "the TAPE is empty behind " + text, x.count(11), 0);
    }

    public static void main(String[] args) {
        newObject();
        tape();
        programs();
        faults();
        manyLines();
        ops();
        everyOp();
        run();
        ends();
        guesses();
        wrongGuesses();
        voices();
        histories();
        indexes();
        providers();
        matchesBelowTheGreatest();
        rows();
        halving();
        trust();
        loops();
        loopsGivenUp();
        corrector();
        wrongWays();
        costs();
        otherParts();
        otherTables();
        patterns();
        traces();
        likes();
        acts();
        images();
        slots();
        CHECK.everyPromise(57);
        CHECK.finish();
    }

    private static void newObject() {
        BranchGuess x = new BranchGuess();
        due(1, "steps", x.steps(), -2);
        for (int what = 0; what <= 12; what++) {
            due(1, "count " + what, x.count(what), 0);
        }
        due(1, "meets", x.meets(0, 0), -2);
        due(1, "NONE", BranchGuess.NONE, -1);
        due(8, "why", x.why(), -2);
        due(12, "wrong", x.wrong(0), -2);
        due(14, "worst", x.worst(), -2);
        due(15, "streak", x.streak(), -2);
        due(36, "cycles", x.cycles(), -2);
        due(37, "cheapest", x.cheapest(), -2);
        due(39, "ideal", x.ideal(), -2);
        due(41, "spare", x.spare(), -2);
        due(50, "undo", x.undo(), -2);
        due(51, "anew", x.anew(), -2);
        due(17, "gained", x.gained(0), -1000);
        due(26, "adds", x.adds(0, 0), -1000);
        due(27, "entry", x.entry(1, 0, 0, 0), -1000);
        due(32, "corrector", x.corrector(0, 0, 0), -1000);
        x.row(0, 0, 1);
        due(47, "trace without a PROGRAM", x.trace(0), -2);
        due(47, "trace of nothing without a PROGRAM", x.trace(1), -2);
        due(48, "like without a PROGRAM", x.like(0), -2);
    }

    private static void tape() {
        BranchGuess x = new BranchGuess();
        for (int i = 1; i <= 40; i++) {
            due(2, "feed " + i, x.feed(538976288, 538976288, 538976288, 538976288, 538976288), 20 * i);
        }
        due(2, "feed 41", x.feed(1, 2, 3, 4, 5), -1);
        due(2, "none came", x.count(11), 800);
        due(3, "end beyond", x.end(801), -1);
        due(3, "end below", x.end(-1), -1);
        due(3, "nothing happened", x.count(11), 800);
        due(3, "end at the end", x.end(800), 800);
        due(3, "end", x.end(781), 781);
        due(2, "781 and 20 are too many", x.feed(0, 0, 0, 0, 0), -1);
        due(3, "end again", x.end(780), 780);
        due(2, "780 and 20", x.feed(0x20202020, 0x20202020, 0x20202020, 0x2020200A, 0x24000000), 800);
        due(4, "program", x.program(), -4);
        due(2, "the highest byte first", x.fault(1), 796);
        due(3, "end of nothing", x.end(0), 0);
        due(3, "end behind it", x.end(1), -1);
        x.feed(-1, -1, -1, -1, -1);
        due(4, "bytes 255", x.program(), -4);
        due(5, "their place", x.fault(1), 0);
    }

    private static void programs() {
        BranchGuess x = of(LOOP);
        due(4, "empty", Programs.load(x, ""), 0);
        due(4, "there is none then", x.steps(), -2);
        due(52, "I without a PROGRAM", x.count(0), 0);
        due(4, "blanks", Programs.load(x, " \n\n  "), 0);
        due(4, "LINES", Programs.load(x, LOOP), 5);
        act(x, 1, "TT");
        due(4, "in place of another", Programs.load(x, TABLES), 3);
        due(4, "no acts", x.count(9), 0);
        due(4, "no BRANCHES", x.branch(0, 0), -2);
        due(4, "the TAPE is empty", x.count(11), 0);
        due(4, "no blanks between words and numbers", Programs.load(x,
            "guesser rows4tag6age9cost20deep9parts7;span1;span40;put7 999;below0 7 39;odd 0 0;go39;stop;"), 8);
        due(4, "many blanks", Programs.load(x, "\n guesser\nrows 1   tag 2 age 1 cost 0 deep 0 parts 0\n;\n"), 1);
        due(4, "zeros ahead", Programs.load(x,
            "guesser rows 0000000000000000000001 tag 02 age 01 cost 00 deep 00 parts 00;put 00 0999;"), 2);
        due(6, "zeros ahead", x.op(0, 2), 999);
        due(4, "longest text", Programs.load(x, bare(0) + " ".repeat(800 - bare(0).length())), 1);
    }

    private static void faults() {
        String h = bare(0);
        int n = h.length();
        BranchGuess x = new BranchGuess();
        due(5, "ahead of any, 0", x.fault(0), 0);
        due(5, "ahead of any, 1", x.fault(1), -1);
        due(5, "ahead of any, 2", x.fault(2), -1);
        Programs.load(x, "stop;");
        due(5, "first LINE", x.fault(0), 1);
        due(5, "another what", x.fault(2), -1);
        due(5, "another what", x.fault(-1), -1);
        Programs.load(x, h);
        due(5, "without", x.fault(0), 0);
        due(5, "without", x.fault(1), -1);

        faulty("span 1;", 1, 0);
        faulty(";", 1, 0);
        faulty("  7;", 1, 2);
        faulty("guesserx rows", 1, 0);
        faulty("guesser", 1, 7);
        faulty("guesser  ", 1, 9);
        faulty("guesser tag 2", 1, 8);
        faulty("guesser rows rows", 1, 13);
        faulty("guesser rows ;", 1, 13);
        faulty("guesser rows 0 tag 2 age 1 cost 0 deep 0 parts 0;", 2, 13);
        faulty("guesser rows 5 $", 2, 13);
        faulty("guesser rows 1 tag 1", 2, 19);
        faulty("guesser rows 1 tag 7", 2, 19);
        faulty("guesser rows 1 tag 2 age 0", 2, 25);
        faulty("guesser rows 1 tag 2 age 10", 2, 25);
        faulty("guesser rows 1 tag 2 age 1 cost 21", 2, 32);
        faulty("guesser rows 1 tag 2 age 1 cost 0 deep 10", 2, 39);
        faulty("guesser rows 1 tag 2 age 1 cost 0 deep 0 parts 8;", 2, 47);
        faulty(h.substring(0, n - 1), 1, n - 1);
        faulty(h + ";", 1, n);
        faulty(h + "5;", 1, n);
        faulty(h + h, 1, n);
        faulty(h + "stop;guesser", 1, n + 5);
        faulty(h + "Stop;", 1, n);
        faulty(h + "stops;", 1, n);
        faulty(h + "stop 1;", 1, n + 5);
        faulty(h + "stop", 1, n + 4);
        faulty(h + "stop\t;", 1, n + 4);
        faulty(h + "stop;\r\n", 1, n + 5);
        faulty(h + "stop; \u0000", 1, n + 6);
        faulty(h + "go;", 1, n + 2);
        faulty(h + "go 40;", 2, n + 3);
        faulty(h + "go -1;", 1, n + 3);
        faulty(h + "go 99999999999999999999999999;", 2, n + 3);
        faulty(h + "go 4294967296;", 2, n + 3);
        faulty(h + "put 8 0;", 2, n + 4);
        faulty(h + "put 0 1000;", 2, n + 6);
        faulty(h + "copy 0 8;", 2, n + 7);
        faulty(h + "below 0 0;", 1, n + 9);
        faulty(h + "odd 0 0 0;", 1, n + 8);
        faulty(h + "odd 0 40;", 2, n + 6);
        faulty(h + "stop;span 1;", 1, n + 5);
        faulty(h + "span 0;", 2, n + 5);
        faulty(h + "span 41;", 2, n + 5);
        faulty(h + "span 4;span 4;", 2, n + 12);
        faulty(h + "span 40;span 40;", 2, n + 13);
        faulty(h + "span 1;span 2;span 3;span 4;span 5;span 6;", 3, n + 35);
        faulty(h + "span 1;span 2;span 3;span 4;span 5;span", 3, n + 35);
        faulty(h + "span 1;span 2;span 3;span 4;span 5;stop;span", 1, n + 40);
        faulty(h + "stop;".repeat(40) + "stop", 3, n + 200);
        faulty(h + "stop;".repeat(40) + "put 8", 3, n + 200);
        faulty(h + "stop;".repeat(40) + "halt", 1, n + 200);
        faulty(h + "stop;".repeat(40) + "span", 1, n + 200);
        faulty(h + "stop;".repeat(40) + "guesser", 1, n + 200);
        faulty(" ".repeat(799) + "x", 1, 799);
        faulty(h + "stop" + " ".repeat(800 - n - 4), 1, 800);
        cutOff(h + "go 399;", n + 5);
        cutOff(h + "stops;", n + 4);
        cutOff(h + "stop;", n + 4);
    }

    /** What was cut off is not there any more. */
    private static void cutOff(String text, int end) {
        BranchGuess x = new BranchGuess();
        for (int from = 0; from < text.length(); from += 20) {
            int[] f = Programs.feedOf(text, from);
            x.feed(f[0], f[1], f[2], f[3], f[4]);
        }
        x.end(end);
        due(3, "cut off: " + text, x.program(), -4);
        due(5, "cut off: " + text, x.fault(0), 1);
        due(5, "cut off: " + text, x.fault(1), end);
    }

    private static void manyLines() {
        BranchGuess x = of(bare(0) + "span 1;span 2;span 3;span 4;span 40;" + "stop;".repeat(40));
        due(52, "LINES", x.count(10), 46);
        due(52, "TABLES", x.count(6), 5);
        due(52, "OPS", x.count(7), 40);
        due(6, "the last OP", x.op(39, 0), 10);
        due(6, "behind it", x.op(40, 0), -2);
    }

    private static void ops() {
        BranchGuess x = of(bare(0) + "put 1 12;add 2 13;take 3 14;copy 4 5;sum 6 7;less 0 1;below 2 3 4;same 5 6 7;"
            + "odd 1 39;go 38;stop;");
        int[][] due = {{0, 1, 12, -1}, {1, 2, 13, -1}, {2, 3, 14, -1}, {3, 4, 5, -1}, {4, 6, 7, -1}, {5, 0, 1, -1},
            {6, 2, 3, 4}, {7, 5, 6, 7}, {8, 1, 39, -1}, {9, 38, -1, -1}, {10, -1, -1, -1}};
        for (int op = 0; op <= 10; op++) {
            for (int what = 0; what <= 3; what++) {
                due(6, "op " + op + " " + what, x.op(op, what), due[op][what]);
            }
            due(6, "op " + op + " 4", x.op(op, 4), -2);
            due(6, "op " + op + " -1", x.op(op, -1), -2);
        }
        due(6, "op 11", x.op(11, 0), -2);
        due(6, "op -1", x.op(-1, 0), -2);
        Programs.load(x, bare(0) + "stop;");
        due(6, "no number is left of another PROGRAM", x.op(0, 1), -1);
        due(6, "no OP is", x.op(1, 0), -2);
    }

    private static void everyOp() {
        BranchGuess x = of(bare(0) + "put 0 998;add 0 5;take 1 2;copy 2 1;sum 2 1;less 0 1;sum 0 0;less 0 0;"
            + "same 0 0 10;stop;odd 1 13;put 3 7;odd 3 14;stop;below 3 3 9;below 0 3 17;stop;same 3 0 9;");
        int[] next = {0, 1, 2, 3, 4, 5, 6, 7, 8, 10, 11, 12, 14, 15, 17, 18};
        due(7, "steps", x.steps(), 15);
        due(8, "why", x.why(), 2);
        for (int s = 0; s <= 15; s++) {
            due(9, "next " + s, x.next(s), next[s]);
        }
        due(10, "put", x.register(0, 1), 998);
        due(10, "add", x.register(0, 2), 3);
        due(10, "take", x.register(1, 3), 998);
        due(10, "copy", x.register(2, 4), 998);
        due(10, "sum", x.register(2, 5), 996);
        due(10, "less", x.register(0, 6), 5);
        due(10, "sum with itself", x.register(0, 7), 10);
        due(10, "less by itself", x.register(0, 8), 0);
        due(10, "none changed it", x.register(7, 15), 0);
        int[][] branches = {{8, 1, 8}, {10, 0, 9}, {12, 1, 11}, {14, 0, 12}, {15, 1, 13}, {17, 0, 14}};
        for (int b = 0; b < 6; b++) {
            due(11, "ADDRESS " + b, x.branch(b, 0), branches[b][0]);
            due(11, "TAKEN " + b, x.branch(b, 1), branches[b][1]);
            due(11, "STEP " + b, x.branch(b, 8), branches[b][2]);
        }
        due(11, "no more", x.branch(6, 0), -2);
    }

    private static void run() {
        BranchGuess x = of(LOOP);
        due(7, "steps", x.steps(), 7);
        due(8, "why", x.why(), 1);
        int[] next = {0, 1, 2, 1, 2, 1, 2, 3};
        int[] one = {0, 0, 1, 1, 2, 2, 3, 3};
        for (int s = 0; s <= 7; s++) {
            due(9, "next " + s, x.next(s), next[s]);
            due(10, "register 1 at " + s, x.register(1, s), one[s]);
        }
        due(9, "next -1", x.next(-1), -2);
        due(9, "next 8", x.next(8), -2);
        due(10, "register 8", x.register(8, 0), -2);
        due(10, "register -1", x.register(-1, 0), -2);
        due(10, "STEP 8", x.register(0, 8), -2);
        due(10, "STEP -1", x.register(0, -1), -2);
    }

    private static void ends() {
        BranchGuess x = of(FOREVER);
        due(7, "200 STEPS", x.steps(), 200);
        due(8, "why 3", x.why(), 3);
        due(9, "next at 200", x.next(200), 0);
        due(52, "BRANCHES", x.count(8), 200);
        due(49, "acts behind 200 BRANCHES", x.meets(0, 1), 1);
        due(11, "act 200", x.branch(200, 0), 0);
        String long199 = "put 0 99;add 1 1;below 1 0 1;";
        x = of(bare(0) + long199);
        due(7, "199 STEPS", x.steps(), 199);
        due(8, "why 2", x.why(), 2);
        due(9, "behind the last OP", x.next(199), 3);
        x = of(bare(0) + long199 + "stop;");
        due(8, "why 1", x.why(), 1);
        x = of(bare(0) + long199 + "add 0 0;stop;");
        due(7, "200 STEPS ahead of a stop", x.steps(), 200);
        due(8, "3, whatever is next", x.why(), 3);
        due(9, "a stop is next", x.next(200), 4);
        x = of(bare(0) + "go 39;");
        due(8, "no OP there", x.why(), 2);
        due(9, "its number", x.next(1), 39);
        x = of(bare(0) + "stop;");
        due(7, "no STEPS", x.steps(), 0);
        due(8, "ahead of a stop", x.why(), 1);
    }

    private static void guesses() {
        BranchGuess x = of(LOOP);
        int[][] due = {{2, 1, 0, 0, 0, 0, 0, 0, 2}, {2, 1, 1, 0, 0, 0, 1, 0, 4}, {2, 0, 1, 0, 0, 0, 1, 0, 6}};
        for (int b = 0; b < 3; b++) {
            for (int what = 0; what <= 8; what++) {
                due(11, "branch " + b + " " + what, x.branch(b, what), due[b][what]);
            }
        }
        due(11, "branch 3", x.branch(3, 0), -2);
        due(11, "branch -1", x.branch(-1, 0), -2);
        due(11, "what 9", x.branch(0, 9), -2);
        due(11, "what -1", x.branch(0, -1), -2);
        x.meets(63, 0);
        due(11, "an act's ADDRESS", x.branch(3, 0), 63);
        due(11, "an act's STEP", x.branch(3, 8), -1);
        due(29, "BASE at first", x.base(2, 0), 1);
        due(29, "BASE at 1", x.base(2, 1), 2);
        due(29, "BASE at 2", x.base(2, 2), 3);
        due(29, "BASE at 3", x.base(2, 3), 2);
        due(29, "63 modulo 16", x.base(15, 4), 0);
        due(29, "COUNT 16", x.base(16, 0), -2);
        due(29, "COUNT -1", x.base(-1, 0), -2);
        due(29, "MOMENT 5", x.base(0, 5), -2);
        x = of(bare(0));
        act(x, 3, "TTTTT");
        due(29, "3 at most", x.base(3, 5), 3);
        act(x, 19, "NNNNNN");
        due(29, "0 at least", x.base(3, 11), 0);
    }

    private static void wrongGuesses() {
        BranchGuess x = of(LOOP);
        int[] wrong = {0, 1, 1, 2};
        for (int m = 0; m <= 3; m++) {
            due(12, "wrong " + m, x.wrong(m), wrong[m]);
        }
        due(12, "MOMENT 4", x.wrong(4), -2);
        due(12, "MOMENT -1", x.wrong(-1), -2);
        due(13, "wrongs 2", x.wrongs(2), 2);
        due(13, "wrongs 1", x.wrongs(1), 0);
        due(13, "wrongs 64", x.wrongs(64), -2);
        due(13, "wrongs -1", x.wrongs(-1), -2);
        due(14, "worst", x.worst(), 2);
        due(15, "streak", x.streak(), 1);
        act(x, 1, "T");
        act(x, 17, "TN");
        due(13, "acts count", x.wrongs(17), 1);
        due(14, "worst of 2 1 1", x.worst(), 2);
        act(x, 0, "TN");
        due(14, "the least of several", x.worst(), 0);
        due(15, "between two wrong ones", x.streak(), 1);
        act(x, 63, "NNNN");
        due(15, "at the end", x.streak(), 4);
        x = of(bare(0));
        due(14, "none was", x.worst(), -1);
        due(15, "no BRANCHES", x.streak(), 0);
        act(x, 63, "T");
        due(14, "at the last ADDRESS", x.worst(), 63);
        due(15, "none was right", x.streak(), 0);
    }

    /** Worked out by hand: CORRECTOR is right for the first time at the seventh BRANCH, LOOPS at the eleventh. */
    private static void voices() {
        BranchGuess x = of(bare(2));
        act(x, 0, "TNTNTNT");
        due(16, "FIRST", x.said(0), 6);
        due(16, "LOOPS", x.said(1), 0);
        due(16, "CORRECTOR", x.said(2), 1);
        due(16, "none such", x.said(3), -2);
        due(16, "none such", x.said(-1), -2);
        due(17, "FIRST", x.gained(0), 0);
        due(17, "CORRECTOR", x.gained(2), 1);
        due(17, "none such", x.gained(3), -1000);
        due(17, "none such", x.gained(-1), -1000);
        x.undo();
        due(25, "what it says", x.guess(0, 6), 1);
        act(x, 0, "N");
        due(17, "wrong where FIRST was right", x.gained(2), -1);
        x = of(bare(1));
        act(x, 3, "TNTNTNTNTNTN");
        due(16, "LOOPS", x.said(1), 2);
        due(17, "LOOPS", x.gained(1), 2);
        due(11, "by LOOPS", x.branch(10, 7), 1);
        due(11, "not yet", x.branch(9, 7), 0);
        act(x, 3, "N");
        due(17, "LOOPS less one", x.gained(1), 1);
    }

    private static void histories() {
        BranchGuess x = of(LOOP);
        due(19, "at 0", x.history(0, 30), 0);
        due(19, "at 1", x.history(1, 30), 1);
        due(19, "at 3", x.history(3, 30), 6);
        due(19, "two bits", x.history(3, 2), 2);
        due(19, "no bits", x.history(3, 0), 0);
        due(19, "31 bits", x.history(3, 31), -2);
        due(19, "-1 bits", x.history(3, -1), -2);
        due(19, "MOMENT 4", x.history(4, 1), -2);
        act(x, 5, "T");
        due(19, "of an act", x.history(4, 30), 13);
        due(20, "1101 to 1", x.fold(4, 4, 1), 1);
        due(20, "1101 to 2", x.fold(4, 4, 2), 2);
        due(20, "1101 to 3", x.fold(4, 4, 3), 4);
        due(20, "101 to 2", x.fold(4, 3, 2), 0);
        x = of(FOREVER);
        due(19, "30 ones", x.history(200, 30), (1 << 30) - 1);
        due(20, "40 ones to 10", x.fold(40, 40, 10), 0);
        due(20, "39 ones to 10", x.fold(39, 40, 10), 512);
        due(20, "40 ones to 7", x.fold(200, 40, 7), 96);
        due(20, "40 ones to 3", x.fold(200, 40, 3), 6);
        due(20, "39 ones to 1", x.fold(200, 39, 1), 1);
        due(20, "40 ones to 1", x.fold(200, 40, 1), 0);
        due(20, "1 to 10", x.fold(200, 1, 10), 1);
        due(20, "span 0", x.fold(4, 0, 3), -2);
        due(20, "span 41", x.fold(4, 41, 3), -2);
        due(20, "0 bits", x.fold(4, 4, 0), -2);
        due(20, "11 bits", x.fold(4, 4, 11), -2);
        due(20, "MOMENT 201", x.fold(201, 4, 3), -2);
    }

    private static void indexes() {
        BranchGuess x = of(TABLES);
        act(x, 5, "TN");
        due(21, "TABLE 1 at 0", x.index(1, 5, 0), 1);
        due(21, "TABLE 2 at 0", x.index(2, 5, 0), 2);
        due(22, "TABLE 1 at 0", x.tag(1, 5, 0), 5);
        due(21, "TABLE 1 at 1", x.index(1, 5, 1), 0);
        due(22, "TABLE 1 at 1", x.tag(1, 5, 1), 6);
        due(21, "TABLE 2 at 1", x.index(2, 5, 1), 3);
        due(22, "TABLE 2 at 1", x.tag(2, 5, 1), 6);
        due(21, "TABLE 1 at 2", x.index(1, 5, 2), 1);
        due(21, "TABLE 2 at 2", x.index(2, 5, 2), 0);
        due(22, "TABLE 2 at 2", x.tag(2, 5, 2), 3);
        due(21, "lowest bits alone", x.index(2, 63, 0), 2);
        due(22, "lowest bits alone", x.tag(2, 63, 0), 7);
        due(21, "TABLE 0", x.index(0, 5, 0), -2);
        due(21, "TABLE 3", x.index(3, 5, 0), -2);
        due(21, "ADDRESS 64", x.index(1, 64, 0), -2);
        due(21, "ADDRESS -1", x.index(1, -1, 0), -2);
        due(21, "MOMENT 3", x.index(1, 5, 3), -2);
        due(22, "TABLE 0", x.tag(0, 5, 0), -2);
        due(22, "TABLE 3", x.tag(3, 5, 0), -2);
        due(22, "ADDRESS 64", x.tag(1, 64, 0), -2);
        due(22, "MOMENT -1", x.tag(1, 5, -1), -2);
        due(33, "5 and 21", x.clash(5, 21, 0), 2);
        due(33, "one ADDRESS", x.clash(7, 7, 2), 2);
        due(33, "another TAG", x.clash(5, 6, 0), 0);
        due(33, "the TAG alone", x.clash(5, 13, 0), 0);
        due(33, "ADDRESS 64", x.clash(5, 64, 0), -2);
        due(33, "ADDRESS -1", x.clash(-1, 5, 0), -2);
        due(33, "MOMENT 3", x.clash(5, 5, 3), -2);
    }

    private static void providers() {
        BranchGuess x = of(TABLES);
        act(x, 5, "TNT");
        due(23, "at 0", x.provider(5, 0), 0);
        due(23, "at 1", x.provider(5, 1), 0);
        due(23, "at 2", x.provider(5, 2), 1);
        due(23, "of an ADDRESS that clashes", x.provider(21, 2), 1);
        due(23, "of one that does not", x.provider(6, 2), 0);
        due(24, "at 2", x.alternate(5, 2), 0);
        due(25, "at 2", x.guess(5, 2), 1);
        due(25, "at 1", x.guess(5, 1), 1);
        due(25, "at 0", x.guess(5, 0), 0);
        due(25, "nothing is learnt", x.guess(5, 0), 0);
        due(11, "PROVIDER", x.branch(2, 3), 1);
        due(11, "ALTERNATE", x.branch(2, 4), 0);
        due(11, "WEAK", x.branch(2, 5), 1);
        due(11, "FIRST", x.branch(2, 6), 1);
        due(18, "BASE", x.provided(0), 2);
        due(18, "TABLE 1", x.provided(1), 1);
        due(18, "TABLE 2", x.provided(2), 0);
        due(18, "TABLE 3", x.provided(3), -2);
        due(18, "TABLE -1", x.provided(-1), -2);
        for (int[] bad : new int[][] {{64, 0}, {-1, 0}, {5, 4}, {5, -1}}) {
            due(23, "provider", x.provider(bad[0], bad[1]), -2);
            due(24, "alternate", x.alternate(bad[0], bad[1]), -2);
            due(25, "guess", x.guess(bad[0], bad[1]), -2);
            due(26, "adds", x.adds(bad[0], bad[1]), -1000);
        }
        due(26, "CORRECTOR is not in P", x.adds(5, 2), 9);
        due(26, "FIRST is not TAKEN", x.adds(5, 0), -3);
    }

    /** All TAKEN but now and then: a TABLE of a longer span comes above one that matches. */
    private static void matchesBelowTheGreatest() {
        BranchGuess x = of(TABLES);
        // TTT: BASE is 3, TABLE 1 has the ROW of MOMENT 0. N at HISTORY 111: BASE is wrong, TABLE 1 takes a ROW.
        act(x, 5, "TTTN");
        due(27, "TABLE 1 for HISTORY 1", x.entry(1, 0, 0, 4), 6);
        due(27, "its COUNT", x.entry(1, 0, 1, 4), -1);
        // HISTORY 1110: TABLE 1 has the ROW of MOMENT 0 for it, COUNT 0, WEAK: TAKEN is right; USE stays, BASE says so too.
        act(x, 5, "T");
        due(11, "PROVIDER", x.branch(4, 3), 1);
        due(27, "USE stays", x.entry(1, 1, 2, 5), 0);
        due(27, "COUNT goes up", x.entry(1, 1, 1, 5), 1);
        due(29, "ALTERNATE, too, as it is WEAK", x.base(5, 5), 3);
        // HISTORY 11101: TABLE 1 says not TAKEN (WEAK); it is TAKEN: USE stays 0, TABLE 2 takes a ROW.
        act(x, 5, "T");
        due(11, "PROVIDER", x.branch(5, 3), 1);
        due(11, "FIRST", x.branch(5, 6), 0);
        due(27, "USE is 0 at least", x.entry(1, 0, 2, 6), 0);
        due(27, "COUNT", x.entry(1, 0, 1, 6), 0);
        // span 3 of 101: FOLD to 2 bits 1 ^ 1 = 0, to 3 bits 5: INDEX 5 ^ 1 ^ 0 ^ 2 = 6, TAG 5 ^ 5 ^ 0 = 0.
        due(27, "TABLE 2's ROW", x.entry(2, 2, 0, 6), 0);
        due(27, "its COUNT", x.entry(2, 2, 1, 6), 0);
        // HISTORY 111011, span 3 011: FOLD to 2 bits 3, to 3 bits 3: INDEX 5, TAG 5 ^ 3 ^ 6 = 0: EMPTY.
        act(x, 5, "N");
        due(27, "COUNT by what it was", x.entry(1, 0, 1, 7), -1);
        due(27, "a ROW in TABLE 2", x.entry(2, 1, 0, 7), 0);
        due(27, "its COUNT", x.entry(2, 1, 1, 7), -1);
        act(x, 5, "T");
        // HISTORY 11101101, span 3 101, span 1 1: both match.
        due(23, "the greatest", x.provider(5, 8), 2);
        due(24, "the greatest below it", x.alternate(5, 8), 1);
        due(25, "TABLE 2 says TAKEN, TABLE 1 not", x.guess(5, 8), 1);
        act(x, 5, "T");
        due(11, "ALTERNATE", x.branch(8, 4), 1);
        due(27, "USE 1 more", x.entry(2, 2, 2, 9), 1);
        due(27, "COUNT 1 up", x.entry(2, 2, 1, 9), 1);
        due(27, "ALTERNATE's 1 up", x.entry(1, 0, 1, 9), 0);
        // By turns: both ROWS of TABLE 1 are right, BASE comes to rest at 1, so that only TAKEN is of use.
        x = of(TABLES);
        act(x, 5, "TNTNTNTNTNTNTN");
        int[] useTaken = {1, 2, 3, 3, 3, 3};
        int[] countTaken = {1, 2, 3, 3, 3, 3};
        int[] countNot = {-2, -3, -4, -4, -4, -4};
        for (int i = 0; i < 6; i++) {
            due(27, "USE, 3 at most, " + i, x.entry(1, 1, 2, 3 + 2 * i), useTaken[i]);
            due(27, "COUNT, 3 at most, " + i, x.entry(1, 1, 1, 3 + 2 * i), countTaken[i]);
            due(27, "COUNT, -4 at least, " + i, x.entry(1, 0, 1, 4 + 2 * i), countNot[i]);
            due(27, "USE of what BASE says too, " + i, x.entry(1, 0, 2, 4 + 2 * i), 1);
        }
    }

    private static void rows() {
        BranchGuess x = of(TABLES);
        act(x, 5, "TNT");
        due(27, "EMPTY", x.entry(1, 1, 0, 0), -1);
        due(27, "EMPTY", x.entry(1, 1, 1, 0), 0);
        due(27, "EMPTY", x.entry(1, 1, 2, 0), 0);
        due(27, "TAG", x.entry(1, 1, 0, 1), 5);
        due(27, "COUNT 0: TAKEN", x.entry(1, 1, 1, 1), 0);
        due(27, "TAG", x.entry(1, 0, 0, 2), 6);
        due(27, "COUNT -1: not TAKEN", x.entry(1, 0, 1, 2), -1);
        due(27, "COUNT", x.entry(1, 1, 1, 3), 1);
        due(27, "USE", x.entry(1, 1, 2, 3), 1);
        due(29, "WEAK: BASE learns, too", x.base(5, 3), 2);
        due(28, "TABLE 1", x.held(1, 3), 2);
        due(28, "TABLE 2", x.held(2, 3), 0);
        due(28, "all", x.held(0, 3), 2);
        due(28, "at 0", x.held(0, 0), 0);
        due(28, "at 1", x.held(0, 1), 1);
        due(28, "TABLE 3", x.held(3, 0), -2);
        due(28, "TABLE -1", x.held(-1, 0), -2);
        due(28, "MOMENT 4", x.held(0, 4), -2);
        due(27, "TABLE 0", x.entry(0, 0, 0, 0), -1000);
        due(27, "TABLE 3", x.entry(3, 0, 0, 0), -1000);
        due(27, "ROW 4", x.entry(1, 4, 0, 0), -1000);
        due(27, "ROW 3", x.entry(1, 3, 0, 0), -1);
        due(27, "ROW -1", x.entry(1, -1, 0, 0), -1000);
        due(27, "what 3", x.entry(1, 0, 3, 0), -1000);
        due(27, "what -1", x.entry(1, 0, -1, 0), -1000);
        due(27, "MOMENT 4", x.entry(1, 0, 0, 4), -1000);
    }

    private static void halving() {
        for (int age = 1; age <= 2; age++) {
            BranchGuess x = of("guesser rows 1 tag 2 age " + age + " cost 5 deep 2 parts 0;span 1;");
            // At 3 T N T: the ROW at INDEX 1 has USE 1; at 1 T: BASE is wrong, that ROW is in the way.
            act(x, 3, "TNT");
            act(x, 1, "T");
            due(27, "USE was there", x.entry(1, 1, 2, 3), 1);
            due(27, "USE 1 less", x.entry(1, 1, 2, 4), 0);
            due(27, "the ROW stays", x.entry(1, 1, 0, 4), 3);
            due(30, "STRAIN", x.gauge(1, 4), age == 1 ? 0 : 1);
            due(30, "halved", x.gauge(3, 4), age == 1 ? 1 : 0);
            due(30, "halved ahead of it", x.gauge(3, 3), 0);
        }
        BranchGuess x = of(TABLES);
        due(30, "TRUST at first", x.gauge(0, 0), 8);
        due(30, "STRAIN at first", x.gauge(1, 0), 0);
        due(30, "LIMIT at first", x.gauge(2, 0), 4);
        due(30, "what 4", x.gauge(4, 0), -2);
        due(30, "what -1", x.gauge(-1, 0), -2);
        due(30, "MOMENT 1", x.gauge(0, 1), -2);
    }

    private static void trust() {
        BranchGuess x = of("guesser rows 1 tag 2 age 1 cost 5 deep 2 parts 4;span 1;");
        act(x, 3, "TN");
        due(23, "WEAK PROVIDER", x.provider(3, 2), 1);
        due(25, "ALTERNATE is heard", x.guess(3, 2), 0);
        act(x, 3, "T");
        due(30, "TRUST was wrong", x.gauge(0, 3), 7);
        x.undo();
        act(x, 3, "N");
        due(30, "TRUST was right", x.gauge(0, 3), 9);
        x = of("guesser rows 1 tag 2 age 1 cost 5 deep 2 parts 0;span 1;");
        act(x, 3, "TNT");
        due(30, "P without TRUST", x.gauge(0, 3), 8);
    }

    private static void loops() {
        BranchGuess x = of(bare(1));
        act(x, 3, "TNTNTNTNTNTN");
        int[] length = {-1, -1, 0, -1, 1, 1, 1, 1, 1, 1, 1, 1, 1};
        int[] run = {0, 0, 0, 1, 0, 1, 0, 1, 0, 1, 0, 1, 0};
        int[] sure = {0, 0, 0, 0, 0, 0, 1, 1, 2, 2, 3, 3, 3};
        for (int m = 0; m <= 12; m++) {
            due(31, "ADDRESS at " + m, x.loop(3, 0, m), m == 0 ? -1 : 3);
            due(31, "LENGTH at " + m, x.loop(3, 1, m), length[m]);
            due(31, "RUN at " + m, x.loop(3, 2, m), run[m]);
            due(31, "SURE at " + m, x.loop(3, 3, m), sure[m]);
            due(31, "AGE at " + m, x.loop(3, 4, m), m == 0 ? 0 : 3);
        }
        due(31, "ROW 8", x.loop(8, 0, 0), -2);
        due(31, "ROW -1", x.loop(-1, 0, 0), -2);
        due(31, "what 5", x.loop(0, 5, 0), -2);
        due(31, "what -1", x.loop(0, -1, 0), -2);
        due(31, "MOMENT 13", x.loop(0, 0, 13), -2);
        x = of(bare(0));
        act(x, 3, "TNTN");
        due(31, "P without LOOPS", x.loop(3, 0, 4), -1);
    }

    private static void loopsGivenUp() {
        BranchGuess x = of(FOREVER);
        due(31, "RUN 59", x.loop(0, 2, 60), 59);
        due(31, "its ADDRESS", x.loop(0, 0, 60), 0);
        due(31, "at 60 it is EMPTY", x.loop(0, 0, 61), -1);
        due(31, "RUN", x.loop(0, 2, 61), 0);
        due(31, "AGE", x.loop(0, 4, 61), 0);
        due(31, "and stays so, as no GUESS is wrong", x.loop(0, 0, 200), -1);
        x = of(bare(1));
        act(x, 1, "T");
        int[] age = {3, 2, 1, 0};
        for (int m = 1; m <= 4; m++) {
            due(31, "AGE at " + m, x.loop(1, 4, m), age[m - 1]);
            due(31, "whose at " + m, x.loop(1, 0, m), 1);
            // 9, 25, 41, 57 have BASE 9: wrong by turns.
            x.meets(8 * (2 * m - 1) + 1, m % 2);
        }
        due(31, "another's", x.loop(1, 0, 5), 57);
        due(31, "AGE anew", x.loop(1, 4, 5), 3);
        due(31, "no LENGTH", x.loop(1, 1, 5), -1);
        x.meets(57, x.guess(57, 5));
        x.meets(1, x.guess(1, 6));
        due(31, "a right GUESS takes no AGE", x.loop(1, 4, 7), 3);
    }

    private static void corrector() {
        BranchGuess x = of(bare(2));
        act(x, 0, "TNTNTNT");
        int[] sums = {-3, 9, -1, 7, 1, 3, 5};
        int[] limits = {4, 4, 4, 4, 4, 3, 3, 2};
        for (int m = 0; m < 7; m++) {
            due(26, "SUM at " + m, x.adds(0, m), sums[m]);
        }
        for (int m = 0; m <= 7; m++) {
            due(30, "LIMIT at " + m, x.gauge(2, m), limits[m]);
        }
        int[] zero = {0, 1, 1, 2, 2, 3, 3, 4};
        int[] one = {0, 0, -1, -1, -2, -2, -3, -3};
        for (int m = 0; m <= 7; m++) {
            due(32, "ROW 0, 0 at " + m, x.corrector(0, 0, m), zero[m]);
            due(32, "ROW 0, 1 at " + m, x.corrector(0, 1, m), one[m]);
        }
        due(32, "ROW 1, 0", x.corrector(1, 0, 1), 1);
        due(32, "ROW 1, 1", x.corrector(1, 1, 2), -1);
        due(32, "ROW 1, 5", x.corrector(1, 5, 6), -2);
        due(32, "ROW 2, 4", x.corrector(2, 4, 6), -1);
        due(32, "ROW 2, 8", x.corrector(2, 8, 7), 1);
        due(32, "ROW 3", x.corrector(3, 0, 0), -1000);
        due(32, "ROW -1", x.corrector(-1, 0, 0), -1000);
        due(32, "COUNT 16", x.corrector(0, 16, 0), -1000);
        due(32, "COUNT -1", x.corrector(0, -1, 0), -1000);
        due(32, "MOMENT 8", x.corrector(0, 0, 8), -1000);
        due(11, "not above LIMIT", x.branch(4, 7), 0);
        due(11, "by CORRECTOR", x.branch(6, 7), 2);
        due(11, "its GUESS", x.branch(6, 2), 1);
        due(11, "FIRST", x.branch(6, 6), 0);
        x = of(bare(0));
        act(x, 0, "TNT");
        due(32, "P without CORRECTOR", x.corrector(0, 0, 3), 0);
        x = of(bare(2));
        act(x, 0, "TTTTT");
        int[] more = {-3, 9, 11, 13, 13};
        int[] up = {0, 0, 1, 2, 2, 2};
        for (int m = 0; m < 5; m++) {
            due(26, "SUM of T at " + m, x.adds(0, m), more[m]);
        }
        for (int m = 0; m <= 5; m++) {
            due(32, "right, and SUM 12 or more: nothing is learnt, " + m, x.corrector(0, 1, m), up[m]);
        }
    }

    private static void wrongWays() {
        BranchGuess x = of(LOOP);
        due(34, "a stop", x.strays(0), 0);
        due(35, "REGISTER 0", x.stray(0, 0), 3);
        due(35, "REGISTER 1", x.stray(0, 1), 1);
        due(34, "right", x.strays(1), 0);
        due(35, "right", x.stray(1, 0), -1);
        due(34, "ahead of a BRANCH", x.strays(2), 1);
        due(35, "REGISTER 1", x.stray(2, 1), 4);
        due(10, "it is put back", x.register(1, 7), 3);
        due(34, "BRANCH 3", x.strays(3), -2);
        due(34, "BRANCH -1", x.strays(-1), -2);
        due(35, "BRANCH 3", x.stray(3, 0), -2);
        due(35, "REGISTER 8", x.stray(0, 8), -2);
        due(35, "REGISTER 8, right", x.stray(1, 8), -2);
        due(35, "REGISTER -1", x.stray(0, -1), -2);
        act(x, 0, "T");
        due(34, "an act", x.strays(3), -2);
        due(35, "an act", x.stray(3, 0), -2);
        String way = "same 0 0 4;add 1 1;go 3;go 1;stop;";
        for (int deep = 0; deep <= 9; deep++) {
            x = of("guesser rows 1 tag 2 age 1 cost 2 deep " + deep + " parts 0;" + way);
            due(34, "deep " + deep, x.strays(0), deep);
            due(35, "deep " + deep, x.stray(0, 1), (deep + 2) / 3);
            due(36, "deep " + deep, x.cycles(), 1 + 2 + deep);
        }
        x = of("guesser rows 1 tag 2 age 1 cost 2 deep 9 parts 0;same 0 0 3;add 1 1;go 30;stop;");
        due(34, "a number that has no OP", x.strays(0), 2);
        // BRANCHES are at the STEPS 1, 3, .. 199, TAKEN but for the last, the 200th OP: it has a WRONG WAY, too.
        x = of("guesser rows 1 tag 2 age 1 cost 2 deep 9 parts 0;add 1 10;below 0 1 0;add 4 1;");
        due(8, "why", x.why(), 3);
        due(11, "the last OP is a BRANCH", x.branch(99, 8), 199);
        due(34, "of the first", x.strays(0), 1);
        due(35, "of the first", x.stray(0, 4), 1);
        due(34, "of the last", x.strays(99), 1);
        due(35, "of the last", x.stray(99, 1), 10);
        due(36, "both", x.cycles(), 206);
    }

    private static void costs() {
        BranchGuess x = of(LOOP);
        due(36, "7 OPS, two wrong, one stray", x.cycles(), 16);
        due(37, "no P is better", x.cheapest(), 16);
        act(x, 1, "TN");
        due(36, "acts cost nothing", x.cycles(), 16);
        // An odd number by turns: only a P with CORRECTOR or LOOPS learns it. 5 OPS a round, BRANCH at 1.
        x = of("guesser rows 1 tag 2 age 1 cost 20 deep 0 parts 0;add 0 1;odd 0 0;go 0;");
        due(36, "all 80 wrong", x.cycles(), 200 + 20 * 80);
        due(37, "by another P", x.cheapest() < 1800 ? 1 : 0, 1);
        due(37, "the fewest of all", x.cheapest(), 200 + 20 * x.by(x.ideal()));
        // Here every part does harm (found by a search, as are the two PATTERNS of late()).
        x = of("guesser rows 4 tag 3 age 9 cost 2 deep 4 parts 0;span 4;span 8;put 6 348;put 7 503;add 0 94;odd 0 5;"
            + "sum 1 0;below 1 6 7;less 2 1;below 2 7 2;same 0 6 11;odd 2 2;take 5 3;go 2;");
        due(39, "no part", x.ideal(), 0);
        due(38, "no part", x.by(0), 21);
        due(37, "no part", x.cheapest(), 251);
        due(36, "no part", x.cycles(), 251);
        late();
    }

    private static void late() {
        BranchGuess x = of("guesser rows 1 tag 6 age 9 cost 7 deep 8 parts 2;span 4;");
        due(45, "learnt at the last", x.learnt(12, 1151, 11), 29);
        x = of("guesser rows 3 tag 2 age 7 cost 12 deep 0 parts 6;");
        due(44, "none wrong in 28", x.round(6, 8998, 16, 28), 0);
        due(45, "but in 29", x.learnt(6, 8998, 16), -1);
    }

    private static void otherParts() {
        BranchGuess x = of(bare(7));
        act(x, 0, "TNTNTNT");
        int[] by = {7, 7, 6, 6, 7, 7, 6, 6};
        for (int p = 0; p <= 7; p++) {
            due(38, "by " + p, x.by(p), by[p]);
        }
        due(38, "by 8", x.by(8), -2);
        due(38, "by -1", x.by(-1), -2);
        due(39, "the least of several", x.ideal(), 2);
        x.anew();
        due(38, "no BRANCHES", x.by(0), 0);
        due(39, "no BRANCHES", x.ideal(), 0);
        act(x, 3, "TNTNTNTNTNTNTN");
        due(38, "LOOPS alone", x.by(1), 10);
    }

    private static void otherTables() {
        BranchGuess x = of(TABLES);
        act(x, 5, "TNT");
        due(40, "TABLE 1", x.without(1), 3);
        due(40, "TABLE 2", x.without(2), 2);
        due(40, "TABLE 0", x.without(0), -2);
        due(40, "TABLE 3", x.without(3), -2);
        due(41, "spare", x.spare(), 2);
        due(42, "TABLE 1, 1", x.spanned(1, 1), 2);
        due(42, "TABLE 1, 2", x.spanned(1, 2), 3);
        due(42, "TABLE 1, 3", x.spanned(1, 3), -2);
        due(42, "TABLE 1, 0", x.spanned(1, 0), -2);
        due(42, "TABLE 2, 1", x.spanned(2, 1), -2);
        due(42, "TABLE 2, 2", x.spanned(2, 2), 2);
        due(42, "TABLE 2, 40", x.spanned(2, 40), 2);
        due(42, "TABLE 2, 41", x.spanned(2, 41), -2);
        due(42, "TABLE 3", x.spanned(3, 10), -2);
        due(42, "TABLE 0", x.spanned(0, 1), -2);
        due(43, "TABLE 1", x.span(1), 1);
        due(43, "TABLE 2", x.span(2), 2);
        due(43, "TABLE 0", x.span(0), -2);
        due(43, "TABLE 3", x.span(3), -2);
        x.undo();
        due(41, "the least of several", x.spare(), 1);
        due(43, "as it stays", x.span(1), 1);
        due(21, "spans stay as told", x.index(1, 5, 1), 0);
        x = of(bare(0));
        due(41, "no TABLES", x.spare(), -1);
        due(40, "no TABLES", x.without(1), -2);
        due(43, "no TABLES", x.span(1), -2);
    }

    private static void patterns() {
        BranchGuess x = of(bare(0));
        due(44, "T, 0", x.round(0, 1, 1, 0), 1);
        due(44, "T, 1", x.round(0, 1, 1, 1), 0);
        due(44, "TN, 0", x.round(0, 1, 2, 0), 2);
        due(44, "TN, 29", x.round(0, 1, 2, 29), 2);
        due(44, "NT, 0: bit 0 first", x.round(0, 2, 2, 0), 1);
        due(44, "ROUND 30", x.round(0, 1, 1, 30), -2);
        due(44, "ROUND -1", x.round(0, 1, 1, -1), -2);
        due(45, "T", x.learnt(63, 1, 1), 1);
        due(45, "N", x.learnt(63, 0, 1), 0);
        due(45, "TN", x.learnt(63, 1, 2), -1);
        due(45, "16 T", x.learnt(63, 65535, 16), 1);
        due(46, "1", x.learns(63, 1), 2);
        due(46, "2", x.learns(63, 2), 2);
        due(46, "3", x.learns(63, 3), 2);
        due(46, "5", x.learns(63, 5), 2);
        due(46, "0", x.learns(63, 0), -2);
        due(46, "6", x.learns(63, 6), -2);
        due(46, "ADDRESS 64", x.learns(64, 1), -2);
        due(46, "ADDRESS -1", x.learns(-1, 1), -2);
        int[][] bad = {{64, 1, 1}, {-1, 1, 1}, {0, 2, 1}, {0, -1, 1}, {0, 0, 0}, {0, 0, -1}, {0, 0, 17},
            {0, 65536, 16}, {0, 0, Integer.MAX_VALUE}, {0, 0, Integer.MIN_VALUE}, {0, 0, 32}, {0, 0, 33}};
        for (int[] b : bad) {
            due(44, "round of " + b[0] + " " + b[1] + " " + b[2], x.round(b[0], b[1], b[2], 0), -2);
            due(45, "learnt of " + b[0] + " " + b[1] + " " + b[2], x.learnt(b[0], b[1], b[2]), -2);
        }
        x = of(bare(1));
        due(45, "LOOPS learn TN", x.learnt(3, 1, 2), 5);
        due(44, "ROUND 4", x.round(3, 1, 2, 4), 2);
        due(44, "ROUND 5", x.round(3, 1, 2, 5), 0);
        act(x, 3, "TNTNTNTNTNTN");
        due(44, "as at MOMENT 0", x.round(3, 1, 2, 0), 2);
        due(46, "LOOPS learn TN and NT", x.learns(3, 2), 4);
    }

    private static void traces() {
        BranchGuess x = of(bare(0));
        due(47, "nothing", x.trace(0), -6);
        due(47, "SLOT 4", x.trace(4), -2);
        due(47, "SLOT -1", x.trace(-1), -2);
        x.row(0, 0, 0);
        due(47, "no numbers", x.trace(0), 0);
        x.row(0, 1, 60);
        due(47, "60 not TAKEN at 0", x.trace(0), 0);
        x.write(0, 0, 1);
        due(47, "TAKEN at 0, then not", x.trace(0), 2);
        x.write(0, 59, 127);
        due(47, "TAKEN at 63", x.trace(0), 3);
        x.write(0, 59, 128);
        due(47, "128", x.trace(0), -2);
        x.write(0, 59, -1);
        due(47, "-1", x.trace(0), -2);
        x.write(0, 59, 1L << 32);
        due(47, "of 8 bytes", x.trace(0), -2);
        x.row(0, 0, 1);
        x.write(0, 0, (1L << 32) + 1);
        act(x, 0, "TTT");
        due(47, "as at MOMENT 0", x.trace(0), 1);
    }

    private static void likes() {
        BranchGuess x = of(bare(7));
        act(x, 0, "TNTNTNT");
        due(48, "nothing", x.like(3), -6);
        due(48, "SLOT 4", x.like(4), -2);
        due(48, "SLOT -1", x.like(-1), -2);
        x.row(3, 1, 0);
        due(48, "no numbers", x.like(3), 255);
        x.row(3, 1, 7);
        for (int i = 1; i < 7; i += 2) {
            x.write(3, i, 1);
        }
        due(48, "P without CORRECTOR", x.like(3), 51);
        x.write(3, 6, 1);
        due(48, "P with CORRECTOR", x.like(3), 204);
        x.write(3, 0, 1);
        due(48, "no P", x.like(3), 0);
        x.write(3, 0, 2);
        due(48, "a number 2", x.like(3), -2);
        x.write(3, 0, -1);
        due(48, "a number -1", x.like(3), -2);
        x.write(3, 0, 1L << 32);
        due(48, "of 8 bytes", x.like(3), -2);
        x.row(3, 1, 8);
        due(48, "8 numbers", x.like(3), -2);
    }

    private static void acts() {
        BranchGuess x = of(LOOP);
        due(49, "wrong", x.meets(7, 1), 0);
        due(49, "right", x.meets(7, 1), 1);
        due(49, "ADDRESS 64", x.meets(64, 1), -2);
        due(49, "ADDRESS -1", x.meets(-1, 1), -2);
        due(49, "taken 2", x.meets(7, 2), -2);
        due(49, "taken -1", x.meets(7, -1), -2);
        due(52, "acts", x.count(9), 2);
        due(50, "undo", x.undo(), 1);
        due(12, "BRANCHES less", x.wrong(5), -2);
        due(49, "another one in its place", x.meets(7, 0), 0);
        due(29, "it is the one that was learnt", x.base(7, 5), 1);
        due(50, "undo", x.undo(), 1);
        due(50, "undo", x.undo(), 0);
        due(50, "none", x.undo(), -5);
        due(51, "none", x.anew(), 0);
        for (int i = 0; i < 40; i++) {
            x.meets(7, 1);
        }
        due(49, "a 41st", x.meets(7, 1), -5);
        due(49, "a 41st that can't be", x.meets(64, 1), -2);
        due(52, "acts", x.count(9), 40);
        due(12, "of 40", x.wrong(43), 3);
        due(51, "all", x.anew(), 40);
        due(52, "acts", x.count(9), 0);
        due(12, "RUN stays", x.wrong(3), 2);
        due(49, "as if there had been none", x.meets(7, 1), 0);
    }

    private static void images() {
        BranchGuess x = of(LOOP);
        due(53, "IMAGE 3", x.image(3), -2);
        due(53, "IMAGE -1", x.image(-1), -2);
        due(54, "IMAGE 3", x.back(3), -2);
        due(54, "IMAGE -1", x.back(-1), -2);
        due(54, "nothing", x.back(2), -6);
        act(x, 7, "T");
        due(53, "image 0", x.image(0), 0);
        act(x, 7, "T");
        due(53, "image 1", x.image(1), 0);
        Programs.load(x, TABLES);
        x.row(0, 0, 3);
        x.feed(1, 2, 3, 4, 5);
        due(54, "back 0", x.back(0), 0);
        due(54, "acts", x.count(9), 1);
        due(54, "LINES", x.count(10), 5);
        due(54, "OPS", x.op(2, 0), 6);
        due(54, "BRANCHES", x.branch(3, 0), 7);
        due(54, "what was learnt", x.base(7, 4), 2);
        due(54, "the TAPE stays", x.count(11), 20);
        due(54, "SLOTS stay", x.count(12), 1);
        act(x, 8, "TTT");
        due(54, "back 1", x.back(1), 0);
        due(54, "acts", x.count(9), 2);
        due(54, "back 0 again", x.back(0), 0);
        due(54, "IMAGES stay as they were", x.count(9), 1);
        x = new BranchGuess();
        due(53, "no PROGRAM", x.image(2), 0);
        Programs.load(x, LOOP);
        due(54, "no PROGRAM", x.back(2), 0);
        due(54, "no PROGRAM", x.steps(), -2);
        due(54, "I", x.count(0), 0);
    }

    private static void slots() {
        BranchGuess x = new BranchGuess();
        due(55, "SLOT 4", x.row(4, 0, 1), -2);
        due(55, "SLOT -1", x.row(-1, 0, 1), -2);
        due(55, "WIDTH 2", x.row(0, 2, 1), -2);
        due(55, "WIDTH -1", x.row(0, -1, 1), -2);
        due(55, "61", x.row(0, 0, 61), -2);
        due(55, "-1", x.row(0, 0, -1), -3);
        due(55, "SLOT 4, -1", x.row(4, 0, -1), -2);
        due(55, "WIDTH 2, -1", x.row(0, 2, -1), -2);
        due(52, "no SLOTS", x.count(12), 0);
        due(56, "nothing", x.write(0, 0, 1), -6);
        due(56, "SLOT 4", x.write(4, 0, 1), -2);
        due(56, "SLOT -1", x.write(-1, 0, 1), -2);
        due(57, "nothing", x.number(0, 0), -1000);
        due(57, "SLOT 4", x.number(4, 0), -1000);
        due(57, "SLOT -1", x.number(-1, 0), -1000);
        due(55, "row", x.row(0, 0, 60), 0);
        due(55, "row", x.row(3, 1, 2), 0);
        due(52, "SLOTS", x.count(12), 2);
        due(57, "all 0", x.number(0, 59), 0);
        due(57, "60", x.number(0, 60), -1000);
        due(57, "-1", x.number(0, -1), -1000);
        due(56, "60", x.write(0, 60, 1), -7);
        due(56, "-1", x.write(0, -1, 1), -7);
        due(56, "write", x.write(0, 59, (7L << 32) + 5), 0);
        due(57, "cut to 4 bytes", x.number(0, 59), 5);
        due(56, "write", x.write(0, 0, 0x80000000L), 0);
        due(57, "the highest of 4 bytes is the sign", x.number(0, 0), Integer.MIN_VALUE);
        due(56, "write", x.write(3, 1, Long.MIN_VALUE), 0);
        due(57, "8 bytes", x.number(3, 1), Long.MIN_VALUE);
        due(55, "-3", x.row(3, 0, -7), -3);
        due(55, "the SLOT stays", x.number(3, 1), Long.MIN_VALUE);
        due(55, "in place of another", x.row(3, 0, 2), 0);
        due(55, "all 0", x.number(3, 1), 0);
        due(55, "WIDTH anew", x.write(3, 1, 1L << 32), 0);
        due(57, "cut", x.number(3, 1), 0);
        due(55, "no numbers", x.row(3, 0, 0), 0);
        due(56, "no numbers", x.write(3, 0, 0), -7);
        due(52, "it has a row", x.count(12), 2);
        due(52, "what 13", x.count(13), -1);
        due(52, "what -1", x.count(-1), -1);
        Programs.load(x, "guesser rows 4 tag 6 age 9 cost 20 deep 8 parts 7;span 5;same 0 0 2;");
        int[] due = {4, 6, 9, 20, 8, 7, 1, 1, 1, 0, 3, 0, 2};
        for (int what = 0; what <= 12; what++) {
            due(52, "count " + what, x.count(what), due[what]);
        }
    }
}
