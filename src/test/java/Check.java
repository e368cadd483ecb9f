import java.util.TreeSet;

/** Counts answers that are not as due, and the promises that were looked at. */
final class Check {
    private final TreeSet<Integer> promises = new TreeSet<>();
    private int checks = 0;
    private int wrong = 0;

    void due(int promise, String what, long got, long want) {
        promises.add(promise);
        checks++;
        if (got != want) {
            wrong++;
            System.out.println("promise " + promise + ": " + what + " answered " + got + ", due is " + want);
        }
    }

    void holds(String what, boolean so) {
        checks++;
        if (!so) {
            wrong++;
            System.out.println("does not hold: " + what);
        }
    }

    void everyPromise(int last) {
        for (int promise = 1; promise <= last; promise++) {
            holds("promise " + promise + " has a test", promises.contains(promise));
        }
    }

    void finish() {
        System.out.println(checks + " checks, " + wrong + " not as due");
        if (wrong > 0) {
            System.exit(1);
        }
    }
}
