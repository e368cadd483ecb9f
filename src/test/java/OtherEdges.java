import java.util.Arrays;

/** Promises 36 to 48: costs, what others would have guessed, PATTERNS, rows of BRANCHES and of GUESSES. */
final class OtherEdges {
    private static final String HEAD = Programs.head(1, 2, 1, 3, 1, 0);
    private static final String LOOP = TapeEdges.LOOP;
    private static final String TABLES = Programs.head(2, 3, 1, 0, 0, 0) + "span 1;span 3;";

    /** Here every part does harm (found by a search). */
    private static final String NO_PART = Programs.head(4, 3, 9, 2, 4, 0) + "span 4;span 8;put 6 348;put 7 503;add 0 94;"
        + "odd 0 5;sum 1 0;below 1 6 7;less 2 1;below 2 7 2;same 0 6 11;odd 2 2;take 5 3;go 2;";

    private final Edges e;

    OtherEdges(Edges edges) {
        e = edges;
    }

    void all() {
        cycles();
        cheapest();
        by();
        without();
        spanned();
        round();
        learnt();
        learns();
        trace();
        like();
    }

    private Asked scene(int i) {
        return e.of(Scenes.TEXTS[i]).acts(Scenes.ACTS[i]);
    }

    private static String withParts(String text, int parts) {
        return text.replaceFirst("parts \\d", "parts " + parts);
    }

    /** How many are wrong if a scene's PROGRAM is told in another way. */
    private long wrongOf(String text, int[] acts) {
        Asked x = e.of(text).acts(acts);
        return x.call("wrong", x.call("count", 8) + acts.length);
    }

    private void cycles() {
        e.says("36", "What RUN costs: 1 each OP of it, of WRONG WAYS, C each wrong GUESS.");
        e.of(HEAD).due(0, "cycles");
        e.of(HEAD + "stop;").due(0, "cycles");
        e.of(HEAD + "put 0 0;").due(1, "cycles");
        e.of(LOOP).due(7 + 1 + 2 * 4, "cycles").acts(9, "TN").due(16, "cycles");
        for (int c = 0; c <= 20; c++) {
            for (int d = 0; d <= 9; d += 3) {
                e.of(Programs.head(1, 2, 1, c, d, 0) + "same 0 0 2;go 1;stop;").due(1 + c + d, "cycles");
            }
        }
        e.of(Programs.head(1, 2, 1, 20, 9, 0) + "go 0;").due(200, "cycles");
        for (int i = 0; i < Scenes.TEXTS.length; i++) {
            Asked x = scene(i);
            long runs = x.call("count", 8);
            long due = x.call("steps") + x.call("wrong", runs) * x.call("count", 3);
            for (int b = 0; b < runs; b++) {
                due += x.call("strays", b);
            }
            x.due(due, "cycles");
        }
        e.says("36", "-2: there is no PROGRAM.");
        e.refusedWithoutProgram(-2, "cycles");
    }

    private void cheapest() {
        e.says("37", "The fewest that RUN can cost by a P (0 .. 7), all else as told.");
        e.of(HEAD).due(0, "cheapest");
        e.of(LOOP).due(16, "cheapest");
        boolean[] best = new boolean[8];
        for (int i = -1; i < Scenes.TEXTS.length; i++) {
            String text = i < 0 ? NO_PART : Scenes.TEXTS[i];
            long[] costs = new long[8];
            for (int p = 0; p <= 7; p++) {
                costs[p] = e.of(withParts(text, p)).call("cycles");
            }
            long[] sorted = costs.clone();
            Arrays.sort(sorted);
            for (int p = 0; p <= 7; p++) {
                best[p] |= costs[p] == sorted[0] && sorted[0] < sorted[1];
                e.of(withParts(text, p)).due(sorted[0], "cheapest");
            }
            e.of(text).acts(9, "TNTT").due(sorted[0], "cheapest");
        }
        e.holds("P 0 and no other is the cheapest somewhere", best[0]);
        e.holds("P 7 and no other is the cheapest somewhere", best[7]);
        e.says("37", "-2 likewise.");
        e.refusedWithoutProgram(-2, "cheapest");
    }

    private void by() {
        e.says("38", "How many of all BRANCHES would be guessed wrong by a P (0 .. 7).");
        e.of(HEAD).due(0, "by", 0).due(0, "by", 7);
        Asked x = e.of(LOOP).due(2, "by", 0).acts(7, "T").due(3, "by", 0).due(3, "by", 7);
        long[][] by = new long[Scenes.TEXTS.length][8];
        for (int i = 0; i < Scenes.TEXTS.length; i++) {
            Asked y = scene(i);
            for (int p = 0; p <= 7; p++) {
                by[i][p] = wrongOf(withParts(Scenes.TEXTS[i], p), Scenes.ACTS[i]);
                y.due(by[i][p], "by", p);
            }
        }
        e.says("38", "-2: there is none such, no PROGRAM.");
        e.bounds(x, -2, 0, 0, 7, "by", 0);
        e.refusedWithoutProgram(-2, "by", 0);

        e.says("39", "The P by which fewest would, the least of several.");
        e.of(HEAD).due(0, "ideal");
        e.of(NO_PART).due(0, "ideal");
        boolean[] best = new boolean[8];
        e.of(Programs.head(1, 2, 1, 0, 0, 7)).acts(0, "TNTNTNT").due(2, "ideal");
        for (int i = 0; i < Scenes.TEXTS.length; i++) {
            int ideal = 0;
            for (int p = 1; p <= 7; p++) {
                ideal = by[i][p] < by[i][ideal] ? p : ideal;
            }
            best[ideal] = true;
            scene(i).due(ideal, "ideal");
        }
        e.holds("P 0 is the best somewhere, and P 7", best[0] && best[7]);
        // A WEAK ROW says TAKEN, BASE does not, and is right: TRUST alone is of use.
        e.of(Programs.head(1, 2, 1, 0, 0, 0) + "span 1;").acts(3, "TNNNNNN").due(4, "ideal");
        e.says("39", "-2: there is no PROGRAM.");
        e.refusedWithoutProgram(-2, "ideal");
    }

    private void without() {
        e.says("40", "How many, were a TABLE (from 1) left out (as if it were not there, above PROVIDER, too; the others' "
            + "numbers stay).");
        e.of(TABLES).due(0, "without", 1).due(0, "without", 2).acts(5, "TNT").due(3, "without", 1).due(2, "without", 2);
        long[][] due = new long[Scenes.TEXTS.length][6];
        for (int i = 0; i < Scenes.TEXTS.length; i++) {
            int[] spans = Step.spansOf(Scenes.TEXTS[i]);
            Asked x = scene(i);
            for (int t = 1; t < spans.length; t++) {
                // Another number of a TABLE puts its ROWS at other INDEXES, each for each: nothing else is changed by it.
                due[i][t] = wrongOf(Scenes.TEXTS[i].replace("span " + spans[t] + ";", ""), Scenes.ACTS[i]);
                x.due(due[i][t], "without", t);
            }
        }
        e.says("40", "-2: there is none such, no PROGRAM.");
        e.bounds(e.of(TABLES), -2, 0, 1, 2, "without", 1);
        e.bounds(e.of(HEAD + "span 1;span 2;span 3;span 4;span 5;"), -2, 0, 1, 5, "without", 1);
        e.of(HEAD).due(-2, "without", 0).due(-2, "without", 1);
        e.refusedWithoutProgram(-2, "without", 1);

        e.says("41", "The TABLE without which fewest would be, the least of several.");
        e.of(TABLES).due(1, "spare").acts(5, "TNT").due(2, "spare");
        for (int i = 0; i < Scenes.TEXTS.length; i++) {
            int tables = Step.spansOf(Scenes.TEXTS[i]).length - 1;
            int spare = tables == 0 ? -1 : 1;
            for (int t = 2; t <= tables; t++) {
                spare = due[i][t] < due[i][spare] ? t : spare;
            }
            scene(i).due(spare, "spare");
        }
        allWrong();
        e.says("41", "NONE: there are no TABLES; -2: there is no PROGRAM.");
        e.of(HEAD).due(-1, "spare").acts(5, "TNT").due(-1, "spare");
        e.of(HEAD + "span 40;").due(1, "spare");
        e.refusedWithoutProgram(-2, "spare");
    }

    /**
     * 200 BRANCHES of RUN and 40 acts, each of which BASE alone guesses wrong: of the ADDRESSES that share a COUNT one is
     * TAKEN, then another is not, by turns. The fewest are as many as there can be then.
     */
    private void allWrong() {
        int[] to = new int[35];
        to[0] = 16;
        to[17] = 33;
        to[32] = 16;
        to[34] = 2;
        for (int op = 3; op <= 15; op += 2) {
            to[op] = op + 16;
            to[op + 15] = op > 3 ? op - 1 : 0;
        }
        StringBuilder ops = new StringBuilder();
        for (int l : to) {
            ops.append(l > 0 ? "same 0 0 " + l + ";" : "odd 0 0;");
        }
        Asked base = e.of(HEAD + ops);
        int[] acts = new int[40];
        for (int i = 0; i < 40; i++) {
            acts[i] = 2 * 5 + 1 - (int) base.call("guess", 5, 200 + i);
            base.due(0, "meets", 5, acts[i] % 2);
        }
        base.due(200, "count", 8).due(240, "wrong", 240).due(0, "streak").due(240, "by", 0);
        Asked x = e.of(HEAD + "span 3;" + ops).acts(acts).due(240, "without", 1).due(1, "spare");
        e.holds("the TABLE is of use", x.call("by", 0) < 240);
    }

    private void spanned() {
        e.says("42", "How many, were the span of a TABLE (from 1) another one (above that of the TABLE ahead of it, below "
            + "that of the one behind it, 1 .. 40).");
        e.of(TABLES).acts(5, "TNT").due(2, "spanned", 1, 1).due(3, "spanned", 1, 2).due(2, "spanned", 2, 2)
            .due(2, "spanned", 2, 40);
        long[][][] due = new long[Scenes.TEXTS.length][7][42];
        for (int i = 0; i < Scenes.TEXTS.length; i++) {
            int[] spans = Step.spansOf(Scenes.TEXTS[i] + "span 41");
            for (int t = 1; t < spans.length - 1; t++) {
                Asked x = scene(i);
                for (int h = spans[t - 1] + 1; h < spans[t + 1]; h++) {
                    String other = Scenes.TEXTS[i].replace("span " + spans[t] + ";", "span " + h + ";");
                    due[i][t][h] = wrongOf(other, Scenes.ACTS[i]);
                    x.due(due[i][t][h], "spanned", t, h);
                }
            }
        }
        e.says("42", "-2: there are none such, no PROGRAM.");
        Asked x = e.of(HEAD + "span 4;span 9;span 20;");
        e.bounds(x, -2, 1, 1, 8, "spanned", 1, 4);
        e.bounds(x, -2, 1, 5, 19, "spanned", 2, 9);
        e.bounds(x, -2, 1, 10, 40, "spanned", 3, 20);
        e.bounds(x, -2, 0, 3, 3, "spanned", 3, 30);
        e.bounds(x, -2, 0, 1, 1, "spanned", 1, 1);
        x = e.of(HEAD + "span 1;span 2;span 3;span 39;span 40;");
        x.due(0, "spanned", 1, 1).due(-2, "spanned", 1, 2).due(-2, "spanned", 1, 0);
        x.due(0, "spanned", 2, 2).due(-2, "spanned", 2, 1).due(-2, "spanned", 2, 3);
        x.due(0, "spanned", 3, 38).due(-2, "spanned", 3, 39).due(0, "spanned", 4, 4).due(-2, "spanned", 4, 3);
        x.due(0, "spanned", 5, 40).due(-2, "spanned", 5, 41).due(-2, "spanned", 5, 39).due(-2, "spanned", 6, 40);
        e.bounds(e.of(HEAD + "span 7;"), -2, 1, 1, 40, "spanned", 1, 7);
        e.of(HEAD).due(-2, "spanned", 0, 1).due(-2, "spanned", 1, 1);
        e.refusedWithoutProgram(-2, "spanned", 1, 1);

        e.says("43", "The span (within these) by which fewest would be, the least of several.");
        e.of(HEAD + "span 4;span 9;span 20;").due(1, "span", 1).due(5, "span", 2).due(10, "span", 3);
        e.of(TABLES).acts(5, "TNT").due(1, "span", 1).due(2, "span", 2);
        for (int i = 0; i < Scenes.TEXTS.length; i++) {
            int[] spans = Step.spansOf(Scenes.TEXTS[i] + "span 41");
            for (int t = 1; t < spans.length - 1; t++) {
                int best = spans[t - 1] + 1;
                for (int h = best + 1; h < spans[t + 1]; h++) {
                    best = due[i][t][h] < due[i][t][best] ? h : best;
                }
                scene(i).due(best, "span", t);
            }
        }
        e.says("43", "-2: there is no such TABLE, no PROGRAM.");
        e.bounds(e.of(TABLES), -2, 0, 1, 2, "span", 1);
        e.bounds(e.of(HEAD + "span 1;span 2;span 3;span 4;span 5;"), -2, 0, 1, 5, "span", 1);
        e.of(HEAD).due(-2, "span", 0).due(-2, "span", 1);
        e.refusedWithoutProgram(-2, "span", 1);
    }

    private void round() {
        e.says("44", "How many GUESSES in a ROUND (0 .. 29) of a PATTERN (an ADDRESS 0 .. 63, n bits) are wrong.");
        Asked x = e.of(HEAD);
        x.due(0, "round", 0, 0, 1, 0).due(1, "round", 0, 1, 1, 0).due(0, "round", 63, 1, 1, 1);
        x.due(2, "round", 63, 1, 2, 29).due(1, "round", 0, 2, 2, 0).due(0, "round", 0, 65535, 16, 29);
        // 8 TAKEN, 8 not: one wrong, then one; from then on two each (COUNT goes 0 .. 3 and back).
        x.due(1 + 2, "round", 5, 255, 16, 0).due(4, "round", 5, 255, 16, 1).due(4, "round", 5, 255, 16, 29);
        x = e.of(Programs.head(1, 2, 1, 0, 0, 1));
        x.due(2, "round", 3, 1, 2, 4).due(0, "round", 3, 1, 2, 5).due(0, "round", 3, 1, 2, 29);

        e.says("44", "-2: there are none such (bits: 0 .. 2 to the n less 1), no PROGRAM.");
        for (int n = 1; n <= 16; n++) {
            e.bounds(x, -2, 1, 0, (1 << n) - 1, "round", 0, 0, n, 0);
        }
        x = e.of(HEAD);
        e.bounds(x, -2, 0, 0, 63, "round", 0, 1, 1, 0);
        e.bounds(x, -2, 2, 1, 16, "round", 0, 0, 1, 0);
        e.bounds(x, -2, 3, 0, 29, "round", 0, 1, 1, 0);
        for (int n : new int[] {31, 32, 33, 63, 64, 65}) {
            x.due(-2, "round", 0, 0, n, 0).due(-2, "round", 0, 1, n, 0);
        }
        e.refusedWithoutProgram(-2, "round", 0, 0, 1, 0);
    }

    private void learnt() {
        e.says("45", "The first ROUND of a PATTERN from which on none is.");
        e.of(HEAD).due(0, "learnt", 0, 0, 1).due(1, "learnt", 63, 1, 1).due(1, "learnt", 0, 65535, 16);
        e.of(Programs.head(1, 2, 1, 0, 0, 1)).due(5, "learnt", 3, 1, 2);
        // Found by a search: learnt at the last.
        e.of(Programs.head(1, 6, 9, 7, 8, 2) + "span 4;").due(29, "learnt", 12, 1151, 11);
        for (int i = 0; i < Scenes.TEXTS.length; i++) {
            for (int n = 1; n <= 16; n += 3) {
                int bits = (1 << n) - 1 & 0b0110110110010110 >> i % 3;
                Asked x = scene(i);
                int first = 30;
                for (int r = 29; r >= 0 && x.call("round", 13, bits, n, r) == 0; r--) {
                    first = r;
                }
                x.due(first == 30 ? -1 : first, "learnt", 13, bits, n);
            }
        }

        e.says("45", "NONE: in ROUND 29 some are; -2 likewise.");
        e.of(HEAD).due(-1, "learnt", 0, 1, 2).due(2, "round", 0, 1, 2, 29);
        // Found by a search: none is wrong in ROUND 28, but in 29.
        Asked x = e.of(Programs.head(3, 2, 7, 12, 0, 6));
        x.due(0, "round", 6, 8998, 16, 28).due(-1, "learnt", 6, 8998, 16);
        for (int n = 1; n <= 16; n++) {
            e.bounds(x, -2, 1, 0, (1 << n) - 1, "learnt", 0, 0, n);
        }
        x = e.of(HEAD);
        e.bounds(x, -2, 0, 0, 63, "learnt", 0, 1, 1);
        e.bounds(x, -2, 2, 1, 16, "learnt", 0, 0, 1);
        for (int n : new int[] {31, 32, 33, 63, 64, 65}) {
            x.due(-2, "learnt", 0, 0, n).due(-2, "learnt", 0, 1, n);
        }
        e.refusedWithoutProgram(-2, "learnt", 0, 0, 1);
    }

    private void learns() {
        e.says("46", "By how many of the PATTERNS of n (1 .. 5) bits at an ADDRESS learnt() is not NONE.");
        for (int n = 1; n <= 5; n++) {
            e.of(HEAD).due(2, "learns", 0, n).due(2, "learns", 63, n);
        }
        e.of(Programs.head(1, 2, 1, 0, 0, 1)).due(4, "learns", 3, 2);
        // Found by a search: one of these is learnt at the last.
        String late = Programs.head(1, 3, 9, 0, 0, 4) + "span 1;span 12;span 15;span 18;";
        e.of(late).due(29, "learnt", 0, 12, 4).due(2, "round", 0, 12, 4, 28).due(0, "round", 0, 12, 4, 29);
        for (int i = -1; i < Scenes.TEXTS.length; i++) {
            for (int n = 1; n <= 5; n++) {
                Asked x = i < 0 ? e.of(late) : scene(i);
                int address = i < 0 ? 0 : 21;
                int learns = 0;
                for (int bits = 0; bits < 1 << n; bits++) {
                    learns += x.call("learnt", address, bits, n) == -1 ? 0 : 1;
                }
                x.due(learns, "learns", address, n);
            }
        }
        e.says("46", "-2: there are none such, no PROGRAM.");
        e.bounds(e.of(HEAD), -2, 0, 0, 63, "learns", 0, 1);
        e.bounds(e.of(HEAD), -2, 1, 1, 5, "learns", 0, 1);
        e.refusedWithoutProgram(-2, "learns", 0, 1);
    }

    private void trace() {
        e.says("47", "BRANCHES as a SLOT's row tells, each number twice the ADDRESS (0 .. 63), and 1 more, if TAKEN, on a "
            + "GUESSER as at MOMENT 0: how many GUESSES are wrong.");
        e.of(HEAD).row(0, 0).due(0, "trace", 0);
        e.of(HEAD).row(3, 1, 0).due(0, "trace", 3);
        e.of(HEAD).row(3, 1, 1).due(1, "trace", 3);
        e.of(HEAD).row(3, 0, 127, 127, 126).due(2, "trace", 3);
        Asked x = e.of(LOOP).acts(0, "TTT").row(0, 0, 1, 1, 4, 5).due(2, "trace", 0).row(1, 0, 1).due(1, "trace", 1);
        x.due(3, "count", 9).due(3, "wrong", 6);
        for (int width = 0; width <= 1; width++) {
            x = e.of(HEAD);
            x.due(0, "row", 2, width, 60);
            for (int i = 0; i < 60; i += 2) {
                x.call("write", 2, i, 9);
            }
            // TAKEN at 4, not TAKEN at 0, by turns.
            x.due(1, "trace", 2).due(0, "write", 2, 59, 1).due(2, "trace", 2);
        }
        for (int i = 0; i < Scenes.TEXTS.length; i++) {
            int[] acts = Scenes.ACTS[i];
            long[] numbers = new long[acts.length];
            for (int j = 0; j < acts.length; j++) {
                numbers[j] = acts[j];
            }
            String noOps = Scenes.TEXTS[i].replaceAll("(put|add|take|copy|sum|less|below|same|odd|go|stop)[ 0-9]*;", "");
            scene(i).row(i % 4, i % 2, numbers).due(wrongOf(noOps, acts), "trace", i % 4);
        }

        e.says("47", "-2: there is no such SLOT, no PROGRAM, a number is none such (asked last); -6: it has nothing.");
        x = e.of(HEAD).due(-6, "trace", 0).due(-6, "trace", 3).due(-2, "trace", 4).due(-2, "trace", -1);
        x.due(-2, "trace", Integer.MAX_VALUE).due(-2, "trace", Integer.MIN_VALUE).due(0, "row", 1, 0, 0);
        x.due(0, "trace", 1);
        for (long number : new long[] {128, -1, 1L << 32, (1L << 32) + 1, Long.MIN_VALUE, Long.MAX_VALUE}) {
            e.of(HEAD).row(0, 1, number).due(-2, "trace", 0);
            e.of(HEAD).row(0, 1, 0, 0, 0, 0, number).due(-2, "trace", 0);
            e.of(HEAD).row(0, 1, number, 0, 0, 0, 0).due(-2, "trace", 0);
        }
        // Of 4 bytes these are cut to 0, 1, 0, and to -1; 128 stays what it is.
        e.of(HEAD).row(0, 0, 1L << 32, (1L << 32) + 1, Long.MIN_VALUE).due(1, "trace", 0);
        e.of(HEAD).row(0, 0, Long.MAX_VALUE).due(-2, "trace", 0);
        e.of(HEAD).row(0, 0, 128).due(-2, "trace", 0);
        e.of(HEAD).row(0, 0, 127).due(1, "trace", 0);
        e.of(HEAD).row(0, 0, -1).due(-2, "trace", 0);
        e.fresh().row(0, 0, 128).due(-2, "trace", 0).due(-2, "trace", 1);
        e.refusedWithoutProgram(-2, "trace", 0);
    }

    private void like() {
        e.says("48", "A SLOT's row tells GUESSES (1 TAKEN, 0 not) of the first BRANCHES: by which P these are just so, as "
            + "bits (the lowest for 0).");
        e.of(HEAD).row(0, 0).due(255, "like", 0);
        e.of(HEAD).acts(0, "T").row(0, 0, 0).due(255, "like", 0).row(0, 1, 1).due(0, "like", 0);
        e.of(HEAD).acts(0, "TNTNTNT").row(3, 1, 0, 1, 0, 1, 0, 1, 0).due(0b00110011, "like", 3)
            .row(3, 0, 0, 1, 0, 1, 0, 1, 1).due(0b11001100, "like", 3).row(3, 0, 0, 1, 0, 1, 0, 1).due(255, "like", 3);
        for (int i = 0; i < Scenes.TEXTS.length; i++) {
            for (int p = 0; p <= 7; p++) {
                likeGuessesBy(i, p);
            }
        }

        e.says("48", "-2: there is no such SLOT, no PROGRAM, a number is other than 0, 1, or there are not so many BRANCHES "
            + "(asked last); -6: it has nothing.");
        Asked x = e.of(LOOP).due(-6, "like", 0).due(-6, "like", 3).due(-2, "like", 4).due(-2, "like", -1);
        x.due(-2, "like", Integer.MAX_VALUE).due(-2, "like", Integer.MIN_VALUE);
        x.row(0, 0, 0, 1, 1).due(255, "like", 0).row(0, 0, 0, 1, 1, 0).due(-2, "like", 0);
        x.acts(9, "N").due(255, "like", 0).call("undo");
        x.due(-2, "like", 0);
        for (long number : new long[] {2, -1, 1L << 32, (1L << 32) + 1, Long.MIN_VALUE, Long.MAX_VALUE}) {
            e.of(LOOP).row(0, 1, number, 1, 1).due(-2, "like", 0);
            e.of(LOOP).row(0, 1, 0, 1, number).due(-2, "like", 0);
            // No P guesses the first one so; yet the number is none such.
            e.of(LOOP).row(0, 1, 1, 1, number).due(-2, "like", 0);
        }
        e.of(LOOP).row(0, 0, 1L << 32, (1L << 32) + 1, 1).due(255, "like", 0);
        e.of(HEAD).row(0, 0, 0).due(-2, "like", 0);
        // The row may have 60 numbers, and all BRANCHES.
        x = e.of(HEAD + "same 0 0 0;");
        x.due(0, "row", 1, 0, 60).due(0, "like", 1);
        for (int i = 1; i < 60; i++) {
            x.call("write", 1, i, 1);
        }
        x.due(255, "like", 1).due(0, "write", 1, 59, 0).due(0, "like", 1);
        e.fresh().row(0, 0, 2).due(-2, "like", 0).due(-2, "like", 1);
        e.refusedWithoutProgram(-2, "like", 0);
    }

    /** A row of what is guessed by a P: the bit of each P that guesses the same is there, no other. */
    private void likeGuessesBy(int scene, int parts) {
        int n = 60;
        long[][] guesses = new long[8][n];
        for (int p = 0; p <= 7; p++) {
            Asked x = e.of(withParts(Scenes.TEXTS[scene], p)).acts(Scenes.ACTS[scene]);
            n = (int) Math.min(n, x.call("count", 8) + 40);
            for (int b = 0; b < n; b++) {
                guesses[p][b] = x.call("branch", b, 2);
            }
        }
        long due = 0;
        for (int p = 0; p <= 7; p++) {
            due |= Arrays.equals(guesses[p], guesses[parts]) ? 1 << p : 0;
        }
        scene(scene).row(1, 0, Arrays.copyOf(guesses[parts], n)).due(due, "like", 1);
    }
}
