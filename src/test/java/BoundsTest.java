import java.util.Random;

/** Acts that are chosen to drive TRUST and LIMIT to their bounds and against them, held against the Model. */
public final class BoundsTest {
    private static final Check CHECK = new Check();
    private static final int RUNS = 24;
    private static int lowTrust = 8;
    private static int highTrust = 8;
    private static int lowLimit = 4;
    private static int highLimit = 4;

    public static void main(String[] args) {
        for (int run = 0; run < RUNS; run++) {
            Random random = new Random(run);
            String text = Programs.random(random);
            drive(random, text.replaceFirst("parts .", "parts 2"), true, run % 2 == 0);
            drive(random, text.replaceFirst("parts .", "parts 4"), false, run % 2 == 0);
        }
        CHECK.holds("TRUST came to 0: " + lowTrust, lowTrust == 0);
        CHECK.holds("TRUST came to 15: " + highTrust, highTrust == 15);
        CHECK.holds("LIMIT came to 1: " + lowLimit, lowLimit == 1);
        CHECK.holds("LIMIT came to 15: " + highLimit, highLimit == 15);
        CHECK.finish();
    }

    private static void drive(Random random, String text, boolean limit, boolean right) {
        BranchGuess x = new BranchGuess();
        BranchGuess plain = new BranchGuess();
        Model model = new Model();
        Programs.load(x, text);
        Programs.load(plain, text.replaceFirst("parts .", "parts 0"));
        for (int from = 0; from < text.length(); from += 20) {
            int[] f = Programs.feedOf(text, from);
            model.feed(f[0], f[1], f[2], f[3], f[4]);
        }
        model.program();
        for (int i = 0; i < 40; i++) {
            int end = x.count(8) + x.count(9);
            int start = random.nextInt(64);
            int met = start;
            int taken = 1 - plain.guess(start, end);
            for (int j = 0; j < 64; j++) {
                int a = (start + j) % 64;
                int heard = limit ? (x.adds(a, end) > 0 ? 1 : 0) : alternateIfWeak(x, a, end);
                int unheard = limit ? plain.guess(a, end) : providerSays(x, a, end);
                if (heard != -1 && heard != unheard) {
                    met = a;
                    taken = right ? heard : unheard;
                    break;
                }
            }
            plain.meets(met, taken);
            CHECK.due(49, text + " meets " + met, x.meets(met, taken), model.meets(met, taken));
        }
        for (int m = 0; m <= x.count(8) + x.count(9); m++) {
            for (int what = 0; what < 4; what++) {
                CHECK.due(30, text + " gauge " + what + " at " + m, x.gauge(what, m), model.gauge(what, m));
            }
            lowTrust = Math.min(lowTrust, x.gauge(0, m));
            highTrust = Math.max(highTrust, x.gauge(0, m));
            lowLimit = Math.min(lowLimit, x.gauge(2, m));
            highLimit = Math.max(highLimit, x.gauge(2, m));
        }
    }

    private static int says(BranchGuess x, int table, int address, int moment) {
        if (table == 0) {
            return x.base(address % 16, moment) >= 2 ? 1 : 0;
        }
        return x.entry(table, x.index(table, address, moment), 1, moment) >= 0 ? 1 : 0;
    }

    private static int providerSays(BranchGuess x, int address, int moment) {
        return says(x, x.provider(address, moment), address, moment);
    }

    /** -1: PROVIDER is not WEAK. */
    private static int alternateIfWeak(BranchGuess x, int address, int moment) {
        int provider = x.provider(address, moment);
        if (provider == 0) {
            return -1;
        }
        int row = x.index(provider, address, moment);
        int count = x.entry(provider, row, 1, moment);
        if (count < -1 || count > 0 || x.entry(provider, row, 2, moment) != 0) {
            return -1;
        }
        return says(x, x.alternate(address, moment), address, moment);
    }
}
