import java.util.ArrayList;
import java.util.Arrays;
import java.util.List;

/** Term I: how a TAPE is read, and where the first FAULT is. */
final class ReadingEdges {
    private static final String HEAD = Programs.head(1, 2, 1, 3, 1, 0);
    private static final int N = HEAD.length();
    private static final String FIVE_SPANS = "span 1;span 2;span 3;span 4;span 5;";
    private static final String[] OP_FORMS = {"put R N", "add R N", "take R N", "copy R S", "sum R S", "less R S",
        "below R S L", "same R S L", "odd R L", "go L", "stop"};

    private final Edges e;

    ReadingEdges(Edges edges) {
        e = edges;
    }

    void all() {
        lines();
        forms();
        parts();
        theFirstLine();
        headBounds();
        spans();
        ops();
        numbersOfOps();
        tokens();
        places();
        faults();
        slots();
    }

    private void lines() {
        e.says("I", "PROGRAM: {LINE ;}.");
        e.reads("", 0);
        e.reads(" ", 0);
        e.reads(HEAD, 1);
        e.reads(HEAD + "stop;", 2);
        e.reads(HEAD + FIVE_SPANS + "stop;".repeat(40), 46);
        e.fails(HEAD.substring(0, N - 1), 1, N - 1);
        e.fails(HEAD + "stop", 1, N + 4);
        e.fails(HEAD + "stop stop;", 1, N + 5);
        e.fails(";", 1, 0);
        e.fails(HEAD + ";", 1, N);
        e.fails(HEAD + "stop;;", 1, N + 5);
    }

    /** Each LINE as it is told; each of its TOKENS left out; each of them twice. */
    private void forms() {
        e.says("I", "LINE: guesser rows I tag W age A cost C deep D parts P | span H | put R N | add R N | take R N | "
            + "copy R S | sum R S | less R S | below R S L | same R S L | odd R L | go L | stop.");
        List<String> head = Arrays.asList("guesser rows 2 tag 2 age 2 cost 2 deep 2 parts 2 ;".split(" "));
        for (int i = 0; i < head.size(); i++) {
            failsAt("", with(head, i, 0), i);
            failsAt("", with(head, i, 2), i + 1);
        }
        e.reads(String.join(" ", head), 1);
        List<String> forms = new ArrayList<>(List.of("span H"));
        forms.addAll(Arrays.asList(OP_FORMS));
        for (String form : forms) {
            List<String> line = Arrays.asList((form.replaceAll("[A-Z]", "1") + " ;").split(" "));
            e.reads(HEAD + String.join(" ", line), 2);
            int last = line.size() - 1;
            // A number left out or doubled is missed, or is one too many, at the end of the LINE.
            for (int i = 0; i <= last; i++) {
                failsAt(HEAD, with(line, i, 0), i == 0 || i == last ? i : last - 1);
                failsAt(HEAD, with(line, i, 2), i == 0 ? 1 : i == last ? last + 1 : last);
            }
        }
        for (String word : "guesse guesserr rows row spa sspan puts pu Put PUT halt jump".split(" ")) {
            e.fails(HEAD + word + " 1 1;", 1, N);
        }
    }

    private static List<String> with(List<String> tokens, int which, int times) {
        List<String> all = new ArrayList<>(tokens.subList(0, which));
        for (int i = 0; i < times; i++) {
            all.add(tokens.get(which));
        }
        all.addAll(tokens.subList(which + 1, tokens.size()));
        return all;
    }

    /** FAULT 1 at the TOKEN of a number; behind the last one it is at the end. */
    private void failsAt(String ahead, List<String> tokens, int which) {
        int place = ahead.length();
        for (int i = 0; i < which; i++) {
            place += tokens.get(i).length() + 1;
        }
        String text = ahead + String.join(" ", tokens);
        e.fails(text, 1, Math.min(place, text.length()));
    }

    private void parts() {
        e.says("I", "P: 1 LOOPS, 2 CORRECTOR, 4 TRUST, added up.");
        for (int p = 0; p <= 7; p++) {
            Asked x = e.of(Programs.head(1, 2, 1, 0, 0, p) + "span 1;").acts(3, "TNT");
            x.due(p % 2 == 1 ? 3 : -1, "loop", 3, 0, 1);
            x.due(p / 2 % 2 == 1 ? 1 : 0, "corrector", 0, 6, 1);
            x.due(p / 4 == 1 ? 7 : 8, "gauge", 0, 3);
            x.due(p, "count", 5);
        }
    }

    private void theFirstLine() {
        e.says("I", "guesser is the first LINE and no other");
        e.reads(HEAD, 1);
        e.fails("stop;", 1, 0);
        e.fails("span 1;", 1, 0);
        e.fails("stop;" + HEAD, 1, 0);
        e.fails(HEAD + HEAD, 1, N);
        e.fails(HEAD + "span 1;" + HEAD, 1, N + 7);
        e.fails(HEAD + "stop;" + HEAD, 1, N + 5);
    }

    private void headBounds() {
        String[] says = {"I 1 .. 4", "W 2 .. 6", "A 1 .. 9", "C 0 .. 20", "D 0 .. 9", "P 0 .. 7."};
        int[] least = {1, 2, 1, 0, 0, 0};
        int[] most = {4, 6, 9, 20, 9, 7};
        String[] good = "guesser rows 1 tag 2 age 1 cost 0 deep 0 parts 0 ;".split(" ");
        for (int i = 0; i < 6; i++) {
            e.says("I", says[i]);
            int place = 0;
            for (int t = 0; t < 2 + 2 * i; t++) {
                place += good[t].length() + 1;
            }
            for (int v = 0; v <= most[i] + 3; v++) {
                String text = headWith(good, 2 + 2 * i, Integer.toString(v));
                if (v < least[i] || v > most[i]) {
                    e.fails(text, 2, place);
                } else {
                    e.reads(text, 1).due(v, "count", i);
                }
            }
            e.fails(headWith(good, 2 + 2 * i, "-1"), 1, place);
            // These would be within the bounds if they were cut to 32, 16 or 8 bits.
            for (long wraps : new long[] {1L << 32, 1L << 31, 1L << 16, 1L << 8, 1L << 62}) {
                e.fails(headWith(good, 2 + 2 * i, Long.toString(wraps + least[i])), 2, place);
            }
            e.fails(headWith(good, 2 + 2 * i, "18446744073709551617"), 2, place);
        }
    }

    private static String headWith(String[] tokens, int which, String token) {
        String[] all = tokens.clone();
        all[which] = token;
        return String.join(" ", all);
    }

    private void spans() {
        e.says("I", "span LINES (five at most) stand ahead of the others");
        StringBuilder spans = new StringBuilder();
        for (int k = 0; k <= 5; k++) {
            e.reads(HEAD + spans, 1 + k).due(k, "count", 6).due(0, "count", 7);
            e.reads(HEAD + spans + "stop;", 2 + k).due(k, "count", 6).due(1, "count", 7);
            e.fails(HEAD + spans + "stop;span 40;", 1, N + spans.length() + 5);
            spans.append("span ").append(k + 1).append(';');
        }
        e.fails(HEAD + spans, 3, N + FIVE_SPANS.length());

        e.says("I", "H 1 .. 40, each above the one ahead of it.");
        e.fails(HEAD + "span 0;", 2, N + 5);
        e.reads(HEAD + "span 1;", 2);
        e.reads(HEAD + "span 40;", 2);
        e.fails(HEAD + "span 41;", 2, N + 5);
        e.fails(HEAD + "span -1;", 1, N + 5);
        e.reads(HEAD + "span 36;span 37;span 38;span 39;span 40;", 6);
        e.fails(HEAD + "span 36;span 37;span 38;span 39;span 41;", 2, N + 37);
        e.reads(HEAD + "span 7;span 8;", 3);
        e.fails(HEAD + "span 7;span 7;", 2, N + 12);
        e.fails(HEAD + "span 7;span 6;", 2, N + 12);
        e.fails(HEAD + "span 7;span 9;span 8;", 2, N + 19);
        e.fails(HEAD + "span 40;span 40;", 2, N + 13);
        e.fails(HEAD + "span 40;span 41;", 2, N + 13);
        Asked x = e.fresh();
        x.load(HEAD + "span 39;span 40;");
        e.due("what stood ahead in another PROGRAM is nothing now", x.load(HEAD + "span 1;span 2;"), 3);
    }

    private void ops() {
        e.says("I", "The others are OPS 0 .. 39 as they stand");
        e.reads(HEAD, 1).due(0, "count", 7).due(-2, "op", 0, 0);
        StringBuilder text = new StringBuilder(HEAD);
        for (int i = 0; i < 40; i++) {
            text.append("go ").append(39 - i).append(';');
        }
        Asked x = e.reads(text.toString(), 41);
        x.due(40, "count", 7);
        for (int i = 0; i < 40; i++) {
            x.due(39 - i, "op", i, 1);
        }
        x.due(-2, "op", 40, 0).due(-2, "op", -1, 0);
        e.fails(text + "go 0;", 3, text.length());
    }

    private void numbersOfOps() {
        String[] says = {"R, S 0 .. 7", "N 0 .. 999", "L 0 .. 39."};
        String[] letters = {"RS", "N", "L"};
        int[] most = {7, 999, 39};
        for (int s = 0; s < 3; s++) {
            e.says("I", says[s]);
            for (int kind = 0; kind < OP_FORMS.length; kind++) {
                String[] form = OP_FORMS[kind].split(" ");
                for (int i = 1; i < form.length; i++) {
                    if (letters[s].contains(form[i])) {
                        numberOfOp(kind, i, most[s]);
                    }
                }
            }
        }
    }

    private void numberOfOp(int kind, int which, int most) {
        String[] tokens = OP_FORMS[kind].replaceAll("[A-Z]", "1").split(" ");
        int place = N;
        for (int i = 0; i < which; i++) {
            place += tokens[i].length() + 1;
        }
        for (int v : new int[] {0, 1, most - 1, most}) {
            tokens[which] = Integer.toString(v);
            e.reads(HEAD + String.join(" ", tokens) + ";", 2).due(kind, "op", 0, 0).due(v, "op", 0, which);
        }
        for (long v : new long[] {most + 1, most + 2, 1L << 31, (1L << 32) - 1, 1L << 32, 1L << 63}) {
            tokens[which] = Long.toUnsignedString(v);
            e.fails(HEAD + String.join(" ", tokens) + ";", 2, place);
        }
    }

    private void tokens() {
        e.says("I", "TOKENS, blanks (32, 10) aside, the longest: words (a .. z), numbers (digits), the sign ; .");
        for (int sign = 0; sign <= 255; sign++) {
            String text = HEAD + "stop" + (char) sign + ";";
            if (sign == 32 || sign == 10) {
                e.reads(text, 2);
            } else if (sign >= 'a' && sign <= 'z') {
                e.fails(text, 1, N);
            } else {
                e.fails(text, 1, N + (sign == ';' ? 5 : 4));
            }
            // Ahead of a word, within a number.
            text = HEAD + (char) sign + "stop;";
            if (sign == 32 || sign == 10) {
                e.reads(text, 2);
            } else {
                e.fails(text, 1, N);
            }
            text = HEAD + "put 0 1" + (char) sign + "0;";
            if (sign >= '0' && sign <= '9') {
                e.reads(text, 2).due(100 + 10 * (sign - '0'), "op", 0, 2);
            } else if (sign == 32 || sign == 10) {
                e.fails(text, 1, N + 8);
            } else {
                e.fails(text, 1, N + (sign == ';' ? 8 : 7));
            }
        }
        e.reads("guesser rows4tag6age9cost20deep9parts7;span1;put7 999;below0 7 39;go39;stop;", 6);
        e.reads("\n\n  guesser\nrows 1   tag\n2 age 1 cost 0 deep 0 parts 0\n;\n stop \n ; \n", 2);
        e.fails(HEAD + "st op;", 1, N);
        e.fails(HEAD + "gostop;", 1, N);
        e.reads(HEAD + "put 0 " + "0".repeat(740) + "7;", 2).due(7, "op", 0, 2);
        e.fails(HEAD + "put 0 " + "0".repeat(730) + "1000;", 2, N + 6);
        e.fails(HEAD + "put 0 " + "9".repeat(740) + ";", 2, N + 6);
        e.fails("a".repeat(800), 1, 0);
    }

    private void places() {
        e.says("I", "FAULTS, the first by its place (a TOKEN's first byte; the end's)");
        e.fails(HEAD + "put 8 1000;", 2, N + 4);
        e.fails(HEAD + "put 7 1000;", 2, N + 6);
        e.fails(HEAD + "put 7 1000 $", 2, N + 6);
        e.fails(HEAD + "put 7 $ 1000", 1, N + 6);
        e.fails(HEAD + "stop;halt;put 9 9;", 1, N + 5);
        e.fails(HEAD + "go   00040;", 2, N + 5);
        e.fails(HEAD + "\n stopped;", 1, N + 2);
        e.fails("x", 1, 0);
        e.fails(" ".repeat(799) + "x", 1, 799);
        e.fails("guesser", 1, 7);
        e.fails("guesser ", 1, 8);
        e.fails("guesser\n\n  ", 1, 11);
        e.fails(HEAD + "stop" + " ".repeat(796 - N), 1, 800);
        Asked cut = e.fresh();
        cut.tape(HEAD + "stop;stop;");
        cut.due(N + 9, "end", N + 9).due(-4, "program").due(1, "fault", 0).due(N + 9, "fault", 1);

        e.says("I", "of one place the least");
        e.fails(HEAD + FIVE_SPANS + "stop;span 6;", 1, N + 40);
        e.fails(HEAD + FIVE_SPANS + "stop;".repeat(40) + "span 6;", 1, N + 235);
        e.fails(HEAD + FIVE_SPANS + "guesser", 1, N + 35);
        e.fails(HEAD + "stop;".repeat(40) + "guesser", 1, N + 200);
        e.fails(HEAD + "stop;".repeat(40) + "halt;", 1, N + 200);
        e.fails(HEAD + "stop;".repeat(40) + "99999;", 1, N + 200);
        e.fails(HEAD + "stop;".repeat(40) + ";", 1, N + 200);
        e.fails(HEAD + "stop 99999;", 1, N + 5);
        e.fails("99999", 1, 0);
        e.fails("guesser 99999", 1, 8);
    }

    private void faults() {
        e.says("I", "1 a TOKEN that is none, or can't stand there (guesser behind the first LINE, another word ahead of "
            + "it, span behind an OP).");
        e.fails(HEAD + "$", 1, N);
        e.fails(HEAD + "put 0 -5;", 1, N + 6);
        e.fails(HEAD + "put 0 5.0;", 1, N + 7);
        e.fails(HEAD + "put 0 five;", 1, N + 6);
        e.fails(HEAD + "put ;", 1, N + 4);
        e.fails(HEAD + "guesser", 1, N);
        e.fails("rows", 1, 0);
        e.fails("span", 1, 0);
        e.fails("put 0 0;" + HEAD, 1, 0);
        e.fails(HEAD + "stop;span", 1, N + 5);
        e.fails(HEAD + "span 1;stop;span 2;", 1, N + 12);

        e.says("I", "2 a number out of its bounds (a span: not above the one ahead of it).");
        e.fails("guesser rows 5", 2, 13);
        e.fails(HEAD + "span 41", 2, N + 5);
        e.fails(HEAD + "span 2;span 2", 2, N + 12);
        e.fails(HEAD + "span 2;span 1", 2, N + 12);
        e.reads(HEAD + "span 2;span 3;", 3);
        e.fails(HEAD + "go 40", 2, N + 3);

        e.says("I", "3 a sixth span, a 41st OP, at its word.");
        e.reads(HEAD + FIVE_SPANS, 6);
        e.fails(HEAD + FIVE_SPANS + "span", 3, N + 35);
        e.fails(HEAD + FIVE_SPANS + " \nspan 0;", 3, N + 37);
        e.fails(HEAD + FIVE_SPANS + "span ;", 3, N + 35);
        e.reads(HEAD + "stop;".repeat(40), 41);
        e.reads(HEAD + FIVE_SPANS + "stop;".repeat(40), 46);
        for (String form : OP_FORMS) {
            String word = form.split(" ")[0];
            e.fails(HEAD + "stop;".repeat(40) + word, 3, N + 200);
            e.fails(HEAD + FIVE_SPANS + "stop;".repeat(40) + " " + word + " 9 9999", 3, N + 236);
        }
    }

    private void slots() {
        e.says("I", "SLOTS 0 .. 3 have rows of numbers of 4 or 8 bytes (WIDTH 0, 1), at most 60, or nothing.");
        Asked x = e.fresh();
        for (int slot = 0; slot <= 3; slot++) {
            x.due(-6, "write", slot, 0, 0).due(-1000, "number", slot, 0);
        }
        for (int slot = 0; slot <= 3; slot++) {
            x.due(slot, "count", 12).due(0, "row", slot, slot % 2, 60).due(slot + 1, "count", 12);
            x.due(0, "write", slot, 59, Long.MAX_VALUE).due(-7, "write", slot, 60, 0);
            x.due(slot % 2 == 0 ? -1 : Long.MAX_VALUE, "number", slot, 59);
        }
        x.due(-2, "row", 4, 0, 1).due(-2, "row", -1, 0, 1).due(-2, "row", 0, 2, 1).due(-2, "row", 0, -1, 1);
        x.due(-2, "row", 0, 0, 61).due(0, "row", 0, 0, 0).due(4, "count", 12);

        e.says("I", "-2 (-1,000) is asked ahead of -5, -6.");
        x = e.fresh();
        x.due(-2, "undo").due(-2, "trace", 0).due(-2, "like", 0).due(-2, "meets", 0, 0);
        x.due(-2, "back", 3).due(-2, "back", -1).due(-2, "write", 4, 0, 0).due(-1000, "number", 0, 0);
        x.load(HEAD);
        x.due(-2, "trace", 4).due(-6, "trace", 3).due(-2, "like", -1).due(-6, "like", 0).due(-5, "undo");
        x.acts(0, "N".repeat(40));
        x.due(-5, "meets", 0, 0).due(-2, "meets", 64, 0).due(-2, "meets", 0, 2);
        x.load("");
        x.due(-2, "meets", 0, 0).due(-2, "undo");
    }
}
