import java.util.Random;

/** Texts of PROGRAMS: random ones, and how a text comes on the TAPE. */
final class Programs {
    private Programs() {
    }

    static String head(int rows, int tag, int age, int cost, int deep, int parts) {
        return "guesser rows " + rows + " tag " + tag + " age " + age + " cost " + cost + " deep " + deep
            + " parts " + parts + ";";
    }

    /** The five numbers of a feed, of the text from a place on; blanks behind its end. */
    static int[] feedOf(String text, int from) {
        int[] five = new int[5];
        for (int i = 0; i < 20; i++) {
            int sign = from + i < text.length() ? text.charAt(from + i) : 32;
            five[i / 4] = five[i / 4] << 8 | sign & 255;
        }
        return five;
    }

    /** Feeds a text and reads it: what program() answers. */
    static int load(BranchGuess guess, String text) {
        guess.end(0);
        for (int from = 0; from < text.length(); from += 20) {
            int[] f = feedOf(text, from);
            guess.feed(f[0], f[1], f[2], f[3], f[4]);
        }
        guess.end(text.length());
        return guess.program();
    }

    static String random(Random random) {
        StringBuilder text = new StringBuilder();
        text.append(head(1 + random.nextInt(4), 2 + random.nextInt(5), 1 + random.nextInt(9), random.nextInt(21),
            random.nextInt(10), random.nextInt(8)));
        int spans = random.nextInt(6);
        int span = 0;
        for (int i = 0; i < spans; i++) {
            span += 1 + random.nextInt(random.nextInt(3) == 0 ? 12 : 4);
            if (span <= 40) {
                text.append("span ").append(span).append(';');
            }
        }
        switch (random.nextInt(4)) {
            case 0: randomOps(random, text); break;
            case 1: nestedLoops(random, text); break;
            case 2: oddities(random, text); break;
            default: mixed(random, text); break;
        }
        return text.toString();
    }

    private static void randomOps(Random random, StringBuilder text) {
        int ops = random.nextInt(36);
        for (int i = 0; i < ops && text.length() < 780; i++) {
            text.append(randomOp(random, ops));
        }
    }

    private static String randomOp(Random random, int ops) {
        int r = random.nextInt(8);
        int s = random.nextInt(8);
        int n = random.nextInt(4) == 0 ? random.nextInt(1000) : random.nextInt(5);
        int to = Math.min(39, random.nextInt(10) == 0 ? random.nextInt(40) : random.nextInt(ops + 1));
        switch (random.nextInt(22)) {
            case 0: case 1: return "put " + r + " " + n + ";";
            case 2: case 3: case 4: return "add " + r + " " + n + ";";
            case 5: return "take " + r + " " + n + ";";
            case 6: return "copy " + r + " " + s + ";";
            case 7: case 8: return "sum " + r + " " + s + ";";
            case 9: return "less " + r + " " + s + ";";
            case 10: case 11: case 12: return "below " + r + " " + s + " " + to + ";";
            case 13: case 14: case 15: return "same " + r + " " + s + " " + to + ";";
            case 16: case 17: case 18: return "odd " + r + " " + to + ";";
            case 19: case 20: return "go " + to + ";";
            default: return random.nextInt(3) == 0 ? "stop;" : "add " + r + " 1;";
        }
    }

    /** An inner loop of a fixed length within an outer one. */
    private static void nestedLoops(Random random, StringBuilder text) {
        int inner = 1 + random.nextInt(9);
        int outer = 2 + random.nextInt(30);
        text.append("put 0 ").append(inner).append(";put 1 ").append(outer).append(";put 2 0;");
        text.append("put 3 0;add 3 1;");
        for (int i = 0; i < random.nextInt(3); i++) {
            text.append("sum 4 3;");
        }
        int back = 4;
        text.append("below 3 0 ").append(back).append(";add 2 1;");
        if (random.nextBoolean()) {
            text.append("odd 2 3;");
        }
        text.append("below 2 1 3;stop;");
    }

    /** A register that runs through residues, asked in several ways. */
    private static void oddities(Random random, StringBuilder text) {
        int step = 1 + random.nextInt(998);
        text.append("put 6 ").append(random.nextInt(1000)).append(";put 7 ").append(random.nextInt(1000)).append(';');
        text.append("add 0 ").append(step).append(';');
        text.append("odd 0 ").append(4 + random.nextInt(2)).append(';');
        text.append("sum 1 0;");
        text.append("below 1 6 ").append(6 + random.nextInt(2)).append(';');
        text.append("less 2 1;");
        text.append("below 2 7 ").append(2).append(';');
        text.append("same 0 6 ").append(9 + random.nextInt(3)).append(';');
        text.append("odd 2 2;take 5 3;go 2;");
    }

    /** Two short loops in turn, and branches that always go one way. */
    private static void mixed(Random random, StringBuilder text) {
        int a = 1 + random.nextInt(6);
        int b = 1 + random.nextInt(6);
        text.append("put 0 ").append(a).append(";put 1 ").append(b).append(";put 2 0;put 3 0;");
        text.append("add 2 1;below 2 0 4;add 3 1;below 3 1 6;same 5 6 9;add 4 7;");
        text.append("odd 4 2;add 4 1;below 7 4 2;go ").append(random.nextInt(14)).append(';');
    }

    /** A text with something in it that may be wrong. */
    static String spoilt(Random random, String text) {
        StringBuilder spoilt = new StringBuilder(text);
        int times = 1 + random.nextInt(2);
        for (int i = 0; i < times; i++) {
            int place = random.nextInt(spoilt.length() + 1);
            String[] pieces = {";", " ", "\n", "x", "7", "0", "00", "span 3;", "stop;", "guesser", "go", "$", "\t",
                "999", "99999999999999999999", "put 0 ", "A", "\u00e9", "\u0000"};
            switch (random.nextInt(3)) {
                case 0:
                    spoilt.insert(place, pieces[random.nextInt(pieces.length)]);
                    break;
                case 1:
                    spoilt.delete(place, Math.min(spoilt.length(), place + 1 + random.nextInt(4)));
                    break;
                default:
                    if (place < spoilt.length()) {
                        spoilt.setCharAt(place, "0123456789;azAZ \n".charAt(random.nextInt(17)));
                    }
                    break;
            }
        }
        spoilt.setLength(Math.min(800, spoilt.length()));
        return spoilt.toString();
    }
}
