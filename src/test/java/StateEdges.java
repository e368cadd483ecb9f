/** Promises 49 to 57: acts, counts, IMAGES, SLOTS. */
final class StateEdges {
    private static final String HEAD = Programs.head(1, 2, 1, 3, 1, 0);
    private static final String LOOP = TapeEdges.LOOP;

    private final Edges e;

    StateEdges(Edges edges) {
        e = edges;
    }

    void all() {
        calls();
        meets();
        undo();
        anew();
        count();
        images();
        row();
        write();
        number();
    }

    private void calls() {
        e.says("What it is", "An object is used for at most 512 calls after it has been made; what later calls answer is "
            + "free.");
        Asked x = e.of(LOOP);
        while (x.calls() < 510) {
            x.due(7, "steps");
        }
        x.due(0, "meets", 9, 1).due(3, "wrong", 4);
        e.due("calls", x.calls(), 512);
    }

    private void meets() {
        e.says("49", "An act, a BRANCH more: 1, if its GUESS was right, else 0.");
        Asked x = e.of(LOOP).due(1, "meets", 0, 0).due(0, "meets", 63, 1).due(1, "meets", 63, 1).due(0, "meets", 63, 0);
        x.due(4, "count", 9).due(3, "count", 8).due(0, "branch", 3, 0).due(63, "branch", 6, 0).due(0, "branch", 6, 1);
        x.due(4, "wrong", 7).due(-2, "wrong", 8).due(7, "steps");
        for (int i = 0; i < Scenes.TEXTS.length; i++) {
            Asked y = e.of(Scenes.TEXTS[i]);
            for (int one : Scenes.ACTS[i]) {
                long end = y.call("count", 8) + y.call("count", 9);
                y.due(y.call("guess", one / 2, end) == one % 2 ? 1 : 0, "meets", one / 2, one % 2);
            }
        }

        e.says("49", "-2: there is no such ADDRESS (0 .. 63), taken is neither 0 nor 1, no PROGRAM; -5: there were 40.");
        x = e.of(LOOP);
        e.bounds(x, -2, 0, 0, 63, "meets", 0, 0);
        e.bounds(x, -2, 1, 0, 1, "meets", 0, 0);
        x.due(4, "count", 9);
        for (int n = 4; n < 40; n++) {
            x.due(n, "count", 9);
            e.holds("act " + n, x.call("meets", n, n % 2) >= 0);
        }
        x.due(40, "count", 9).due(-5, "meets", 0, 0).due(-5, "meets", 63, 1).due(40, "count", 9);
        x.due(-2, "meets", 64, 0).due(-2, "meets", -1, 0).due(-2, "meets", 0, 2).due(-2, "meets", 0, -1);
        x.due(-2, "branch", 43, 0).due(39, "branch", 42, 0).due(39, "undo").due(1, "meets", 0, 0).due(-5, "meets", 0, 0);
        x = e.of(HEAD + "same 0 0 0;").acts(0, "T".repeat(40)).due(-5, "meets", 0, 1).due(0, "branch", 239, 0);
        x.due(-2, "branch", 240, 0);
        e.refusedWithoutProgram(-2, "meets", 0, 0);
    }

    private void undo() {
        e.says("50", "The latest act is taken back: how many there are.");
        Asked x = e.of(LOOP).acts(9, "TTTNT");
        int[] base = {1, 2, 3, 3, 2, 3};
        for (int n = 4; n >= 0; n--) {
            x.due(base[n + 1], "base", 9, 4 + n).due(n, "undo").due(n, "count", 9).due(-2, "base", 9, 4 + n);
            x.due(base[n], "base", 9, 3 + n).due(-2, "branch", 3 + n, 0);
        }
        x.due(2, "wrong", 3);
        // Another one in its place is learnt in its place.
        x.acts(9, "TT").due(1, "undo").acts(9, "N").due(1, "base", 9, 5).due(0, "branch", 4, 1).due(1, "branch", 4, 2);
        x = e.of(HEAD).acts(9, "T".repeat(40)).due(39, "undo").due(1, "meets", 9, 1).due(-5, "meets", 9, 1);
        for (int i = 0; i < Scenes.TEXTS.length; i++) {
            Asked y = e.of(Scenes.TEXTS[i]).acts(new int[] {7, 8, 127}).due(2, "undo").due(1, "undo").due(0, "undo");
            Asked z = e.of(Scenes.TEXTS[i]);
            long end = z.call("count", 8);
            for (int a = 0; a <= 63; a++) {
                y.due(z.call("guess", a, end), "guess", a, end).due(z.call("adds", a, end), "adds", a, end);
            }
        }
        e.says("50", "-2: there is no PROGRAM; -5: there is none.");
        e.of(LOOP).due(-5, "undo").acts(9, "T").due(0, "undo").due(-5, "undo").due(0, "count", 9).due(2, "wrong", 3);
        e.of(HEAD).due(-5, "undo");
        e.refusedWithoutProgram(-2, "undo");
    }

    private void anew() {
        e.says("51", "All are: how many there were.");
        e.of(LOOP).due(0, "anew").acts(9, "T").due(1, "anew").due(0, "anew").due(-5, "undo");
        Asked x = e.of(LOOP).acts(9, "T".repeat(40)).due(40, "anew").due(0, "count", 9).due(-2, "wrong", 4);
        x.due(2, "wrong", 3).due(0, "meets", 9, 1).due(1, "count", 9).due(2, "base", 9, 4);
        e.of(HEAD).acts(9, "TT").due(1, "undo").due(1, "anew");
        e.says("51", "-2 likewise.");
        e.refusedWithoutProgram(-2, "anew");
    }

    private void count() {
        e.says("52", "0 I, 1 W, 2 A, 3 C, 4 D, 5 P, 6 TABLES, 7 OPS, 8 BRANCHES of RUN, 9 acts, 10 LINES, 11 bytes of the "
            + "TAPE, 12 SLOTS that have a row.");
        Asked x = e.fresh();
        Asked none = e.fresh();
        for (int what = 0; what <= 12; what++) {
            none.due(0, "count", what);
        }
        x.load(Programs.head(4, 6, 9, 20, 8, 7) + "span 5;span 6;same 0 0 3;stop;stop;odd 0 0;");
        x.acts(5, "TTT").row(1, 0, 1, 2).row(3, 1);
        x.tape("abcdefg");
        int[] due = {4, 6, 9, 20, 8, 7, 2, 4, 2, 3, 7, 7, 2};
        for (int what = 0; what <= 12; what++) {
            x.due(due[what], "count", what);
        }
        x = e.of(Programs.head(1, 2, 1, 0, 0, 0) + "span 1;span 2;span 3;span 4;span 5;" + "same 0 0 0;".repeat(40));
        x.acts(0, "T".repeat(40)).row(0, 0).row(1, 0).row(2, 0).row(3, 0);
        x.tape(" ".repeat(800));
        int[] most = {1, 2, 1, 0, 0, 0, 5, 40, 200, 40, 46, 800, 4};
        for (int what = 0; what <= 12; what++) {
            x.due(most[what], "count", what);
        }
        e.says("52", "NONE for others.");
        e.bounds(x, -1, 0, 0, 12, "count", 0);
        e.bounds(none, -1, 0, 0, 12, "count", 0);
    }

    private void images() {
        e.says("53", "IMAGE k (0 .. 2) keeps the PROGRAM, and acts: 0.");
        Asked x = e.of(LOOP);
        for (int k = 0; k <= 2; k++) {
            x.acts(9, "T").due(0, "image", k).due(k + 1, "count", 9);
        }
        x.load(HEAD);
        for (int k = 2; k >= 0; k--) {
            x.due(0, "back", k).due(k + 1, "count", 9).due(5, "count", 10).due(9, "branch", 3 + k, 0);
        }
        // It is kept as it was then, and anew if it is kept again.
        x.acts(9, "N").due(2, "count", 9).due(0, "back", 0).due(1, "count", 9).acts(9, "NN").due(0, "image", 0);
        x.due(3, "anew").due(0, "back", 0).due(3, "count", 9).due(0, "branch", 5, 1);
        x = e.of(HEAD).acts(9, "T".repeat(40)).due(0, "image", 2).due(40, "anew").due(0, "back", 2).due(40, "count", 9);
        x.due(-5, "meets", 0, 0);
        // Without a PROGRAM: that there is none.
        x = e.fresh().due(0, "image", 1);
        x.load(LOOP);
        x.due(0, "back", 1).due(-2, "steps").due(0, "count", 10).due(0, "count", 0).due(-6, "back", 0);
        e.says("53", "-2: no such k.");
        e.bounds(e.of(LOOP), -2, 0, 0, 2, "image", 0);
        e.bounds(e.fresh(), -2, 0, 0, 2, "image", 0);

        e.says("54", "It is as IMAGE k has it: 0.");
        x = e.of(LOOP).acts(9, "TT").due(0, "image", 0).row(0, 0, 5);
        x.load(Programs.head(4, 6, 9, 20, 8, 7) + "span 5;span 6;same 0 0 0;");
        x.acts(0, "TTT");
        x.tape("abc");
        x.due(0, "back", 0);
        int[] due = {2, 3, 2, 4, 3, 0, 0, 4, 3, 2, 5, 3, 1};
        for (int what = 0; what <= 12; what++) {
            x.due(due[what], "count", what);
        }
        x.due(5, "number", 0, 0).due(7, "steps").due(1, "why").due(3, "wrong", 5).due(3, "base", 9, 5).due(9, "branch", 4, 0);
        x.due(1, "undo").due(0, "undo").due(-5, "undo").due(0, "back", 0).due(2, "count", 9);
        for (int i = 0; i + 1 < Scenes.TEXTS.length; i++) {
            Asked y = e.of(Scenes.TEXTS[i]).acts(Scenes.ACTS[i]).due(0, "image", 1);
            y.load(Scenes.TEXTS[i + 1]);
            y.acts(3, "TTN").due(0, "back", 1);
            Asked z = e.of(Scenes.TEXTS[i]).acts(Scenes.ACTS[i]);
            long end = z.call("count", 8) + 40;
            for (int a = 0; a <= 63; a++) {
                y.due(z.call("guess", a, end), "guess", a, end).due(z.call("adds", a, end), "adds", a, end);
            }
            y.due(z.call("wrong", end), "wrong", end).due(z.call("cycles"), "cycles").due(z.call("ideal"), "ideal");
        }

        e.says("54", "-2: no such k; -6: it has nothing.");
        x = e.of(LOOP).acts(9, "T");
        x.due(-6, "back", 0).due(-6, "back", 1).due(-6, "back", 2).due(-2, "back", 3).due(-2, "back", -1);
        x.due(1, "count", 9).due(0, "image", 1).due(-6, "back", 0).due(0, "back", 1).due(-6, "back", 2);
        x.due(0, "image", 0).due(0, "image", 2);
        e.bounds(x, -2, 0, 0, 2, "back", 0);
        x.due(1, "count", 9).due(5, "count", 10);
    }

    private void row() {
        e.says("55", "A SLOT (0 .. 3) has a row of n numbers of a WIDTH, all 0 (in place of another one): 0.");
        Asked x = e.fresh();
        for (int slot = 0; slot <= 3; slot++) {
            for (int width = 0; width <= 1; width++) {
                for (int n : new int[] {60, 1, 0, 2}) {
                    x.due(0, "row", slot, width, n);
                    for (int i = 0; i < n; i += 29) {
                        x.due(0, "number", slot, i).due(0, "write", slot, i, 7L << 32 | 9);
                        x.due(width == 0 ? 9 : 7L << 32 | 9, "number", slot, i);
                    }
                    x.due(-1000, "number", slot, n).due(-7, "write", slot, n, 1);
                }
            }
        }
        // In place of a longer one: nothing is left of it if a longer one comes again.
        x = e.fresh().row(2, 1, 1, 2, 3).row(2, 1).due(0, "row", 2, 1, 3);
        x.due(0, "number", 2, 0).due(0, "number", 2, 1).due(0, "number", 2, 2);
        // One SLOT's row is not another's.
        x = e.fresh();
        for (int slot = 0; slot <= 3; slot++) {
            x.due(0, "row", slot, 1, 60).due(0, "write", slot, 0, 100 + slot).due(0, "write", slot, 59, 200 + slot);
        }
        x.due(0, "row", 1, 0, 60);
        for (int slot = 0; slot <= 3; slot++) {
            x.due(slot == 1 ? 0 : 100 + slot, "number", slot, 0).due(slot == 1 ? 0 : 200 + slot, "number", slot, 59);
        }

        e.says("55", "-2: there is no such SLOT or WIDTH (0, 1), or n is above 60; -3, and the SLOT stays: n is below 0.");
        x = e.fresh();
        e.bounds(x, -2, 0, 0, 3, "row", 0, 0, 1);
        e.bounds(x, -2, 1, 0, 1, "row", 0, 0, 1);
        x = e.fresh().row(2, 1, 5, 1L << 40);
        x.due(-2, "row", 2, 0, 61).due(-2, "row", 2, 0, Integer.MAX_VALUE).due(-2, "row", 2, 2, 1).due(-2, "row", 2, -1, 1);
        x.due(-3, "row", 2, 0, -1).due(-3, "row", 2, 0, Integer.MIN_VALUE).due(-3, "row", 2, 1, -60);
        x.due(5, "number", 2, 0).due(1L << 40, "number", 2, 1).due(-1000, "number", 2, 2).due(1, "count", 12);
        x.due(0, "write", 2, 0, 1L << 41).due(1L << 41, "number", 2, 0);
        x.due(-3, "row", 0, 0, -1).due(-6, "write", 0, 0, 1).due(1, "count", 12);
        x.due(-2, "row", 4, 0, -1).due(-2, "row", -1, 0, -1).due(-2, "row", 0, 2, -1).due(-2, "row", 0, -1, -1);
        x.due(0, "row", 2, 0, 0).due(0, "row", 2, 0, 60).due(0, "number", 2, 59);
    }

    private void write() {
        e.says("56", "Number i of the SLOT's row is v, cut to its WIDTH: 0.");
        long[] all = {0, 1, -1, Integer.MAX_VALUE, Integer.MIN_VALUE, Integer.MAX_VALUE + 1L, Integer.MIN_VALUE - 1L,
            (1L << 32) - 1, 1L << 32, (1L << 32) + 1, Long.MAX_VALUE, Long.MIN_VALUE, Long.MIN_VALUE + 1, -(1L << 32)};
        Asked x = e.fresh().due(0, "row", 0, 0, 60).due(0, "row", 3, 1, 60);
        for (long v : all) {
            for (int i : new int[] {0, 59}) {
                x.due(0, "write", 0, i, v).due((int) v, "number", 0, i).due(0, "write", 3, i, v).due(v, "number", 3, i);
            }
            x.due(0, "number", 0, 1).due(0, "number", 3, 58);
        }
        // Four bytes have a sign.
        x.due(0, "write", 0, 5, 0x80000000L).due(-2147483648L, "number", 0, 5);
        x.due(0, "write", 0, 5, 0x7fffffffL).due(2147483647L, "number", 0, 5);
        x.due(0, "write", 0, 5, 0xffffffffL).due(-1, "number", 0, 5);

        e.says("56", "-2: there is no such SLOT; -6: it has nothing; -7: there is no such number.");
        x = e.fresh();
        x.due(-6, "write", 0, 0, 1).due(-6, "write", 3, 0, 1).due(-6, "write", 0, -1, 1).due(-6, "write", 0, 60, 1);
        x.due(-2, "write", 4, 0, 1).due(-2, "write", -1, 0, 1).due(-2, "write", 4, -1, 1);
        x.due(-2, "write", Integer.MAX_VALUE, 0, 1).due(-2, "write", Integer.MIN_VALUE, 0, 1);
        for (int slot = 0; slot <= 3; slot++) {
            x.due(0, "row", slot, 0, 1 + slot);
            e.bounds(x, -7, 1, 0, slot, "write", slot, 0, 9);
            x.due(9, "number", slot, slot).due(-1000, "number", slot, slot + 1);
        }
        x.due(0, "row", 1, 1, 0).due(-7, "write", 1, 0, 1).due(-7, "write", 1, -1, 1);
        x.due(0, "row", 2, 1, 60);
        e.bounds(x, -7, 1, 0, 59, "write", 2, 0, 9);
    }

    private void number() {
        e.says("57", "Number i of the SLOT's row.");
        Asked x = e.fresh();
        for (int slot = 0; slot <= 3; slot++) {
            x.row(slot, 1, slot, 10 + slot, 20 + slot);
        }
        for (int slot = 0; slot <= 3; slot++) {
            for (int i = 0; i < 3; i++) {
                x.due(10 * i + slot, "number", slot, i);
            }
        }
        e.says("57", "-1,000: there is no such SLOT, no such number, it has nothing.");
        e.bounds(x, -1000, 0, 0, 3, "number", 0, 0);
        e.bounds(x, -1000, 1, 0, 2, "number", 3, 0);
        x = e.fresh().due(0, "row", 1, 0, 60).due(0, "row", 2, 1, 0);
        e.bounds(x, -1000, 1, 0, 59, "number", 1, 0);
        x.due(-1000, "number", 2, 0).due(-1000, "number", 2, -1).due(-1000, "number", 0, 0).due(-1000, "number", 3, 0);
        x.due(-1000, "number", 4, 0).due(-1000, "number", -1, 0);
    }
}
