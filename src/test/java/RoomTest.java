import com.sun.management.ThreadMXBean;
import java.lang.management.ManagementFactory;

/** The room: what a new object takes, and that no call takes more. */
public final class RoomTest {
    private static final ThreadMXBean THREADS = (ThreadMXBean) ManagementFactory.getThreadMXBean();
    private static final long MOST_BYTES_OF_AN_OBJECT = 48_000;

    private static long used() {
        return THREADS.getThreadAllocatedBytes(Thread.currentThread().getId());
    }

    private static final int[] TEXT = new int[200];

    private static int load(BranchGuess x, int length) {
        int calls = 2;
        for (int i = 0; i < length; i += 20) {
            x.feed(TEXT[i / 4], TEXT[i / 4 + 1], TEXT[i / 4 + 2], TEXT[i / 4 + 3], TEXT[i / 4 + 4]);
            calls++;
        }
        x.end(length);
        x.program();
        return calls;
    }

    /** Nothing is made here but what the calls make. */
    private static long allCalls(BranchGuess x, int length) {
        long sum = load(x, length);
        for (int m = 0; m < 40; m++) {
            sum += x.meets(m, m & 1);
        }
        sum += x.image(0) + x.undo() + x.anew() + x.back(0) + x.undo();
        for (int what = 0; what < 14; what++) {
            sum += x.count(what) + x.branch(3, what) + x.gauge(what, 20) + x.loop(1, what, 19) + x.fault(what)
                + x.op(what, 1) + x.said(what) + x.gained(what) + x.by(what) + x.provided(what);
        }
        sum += x.steps() + x.why() + x.next(3) + x.register(0, 3) + x.wrong(9) + x.wrongs(3) + x.worst() + x.streak();
        sum += x.history(30, 9) + x.fold(30, 20, 4) + x.index(1, 5, 9) + x.tag(1, 5, 8) + x.provider(4, 7);
        sum += x.alternate(4, 7) + x.guess(4, 6) + x.adds(4, 5) + x.entry(1, 1, 1, 30) + x.held(0, 30) + x.base(1, 3);
        sum += x.corrector(1, 1, 30) + x.clash(1, 2, 30) + x.strays(0) + x.stray(0, 0) + x.cycles() + x.cheapest();
        sum += x.ideal() + x.without(1) + x.spare() + x.spanned(2, 9) + x.span(1) + x.span(5);
        sum += x.round(3, 77, 9, 29) + x.learnt(3, 77, 9) + x.learns(3, 5);
        sum += x.row(1, 1, 60) + x.write(1, 0, 7) + x.number(1, 0) + x.trace(1) + x.row(2, 0, 20) + x.like(2);
        return sum;
    }

    public static void main(String[] args) {
        String text = Programs.head(4, 6, 2, 5, 9, 7) + "span 1;span 3;span 8;span 17;span 40;"
            + "put 0 7;add 1 1;odd 1 0;below 1 0 1;sum 2 1;take 1 7;odd 2 1;go 4;";
        for (int i = 0; i < text.length(); i += 20) {
            System.arraycopy(Programs.feedOf(text, i), 0, TEXT, i / 4, 5);
        }
        Check check = new Check();
        allCalls(new BranchGuess(), text.length());
        used();
        long before = used();
        BranchGuess x = new BranchGuess();
        long made = used() - before;
        check.holds("a new object takes " + made + " bytes", made <= MOST_BYTES_OF_AN_OBJECT);
        long sum = 0;
        long more = Long.MAX_VALUE;
        // The least of several: what the virtual machine itself may make now and then doesn't count.
        for (int i = 0; i < 5; i++) {
            before = used();
            sum += allCalls(x, text.length());
            more = Math.min(more, used() - before);
        }
        check.holds("all calls take " + more + " bytes", more == 0);
        check.holds("they were answered", sum != 0);
        check.holds("the PROGRAM could be read", x.count(8) > 50);
        System.out.println("a new object takes " + made + " bytes, all calls " + more);
        check.finish();
    }
}
