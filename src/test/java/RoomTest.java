import com.sun.management.ThreadMXBean;
import java.lang.management.ManagementFactory;

/**
 * What a run makes, which all stays in one room of 7.3 million fields and elements. None of these
 * takes less than four bytes here, but for a few, so a quarter of the bytes stands above their number.
 */
public final class RoomTest {
    private static final long ROOM = 7_300_000;
    private static final ThreadMXBean THREADS = (ThreadMXBean) ManagementFactory.getThreadMXBean();

    private final Check check = new Check("RoomTest");

    public static void main(String[] args) {
        RoomTest test = new RoomTest();
        // The first run of all makes what the Java machine needs for its own ends.
        objects();
        largeRun();
        searchRun();
        test.fits("512 objects", RoomTest::objects);
        test.fits("60 languages of 64 states, then calls for large ones", RoomTest::largeRun);
        test.fits("500 searches and questions", RoomTest::searchRun);
        test.check.end();
    }

    private void fits(String what, Check.Act act) {
        long thread = Thread.currentThread().getId();
        long before = THREADS.getThreadAllocatedBytes(thread);
        act.run();
        long elements = (THREADS.getThreadAllocatedBytes(thread) - before) / 4;
        System.out.println("RoomTest: " + what + ": at most " + elements);
        check.that(what + " makes " + elements, elements < ROOM);
    }

    private static void objects() {
        for (int k = 0; k < 512; k++) {
            new RegularSolver().letters(k % 16);
        }
    }

    private static void largeRun() {
        RegularSolver x = new RegularSolver();
        int any = x.letters(15);
        int six = x.then(x.then(any, any), x.then(any, any));
        six = x.then(six, x.then(any, any));
        int many = x.then(x.again(any), x.then(x.letters(1), x.and(any, any)));
        for (int k = 0; k < 3; k++) {
            many = x.then(many, any);
        }
        int wide = x.then(many, any);
        for (int k = wide + 1; k < 59; k++) {
            x.not(wide);
        }
        for (int k = 59; k < 500; k++) {
            int asked = k;
            int fixed = six;
            Check.told(() -> asked % 2 == 0 ? x.then(wide, wide) : x.then(wide, fixed));
        }
    }

    private static void searchRun() {
        RegularSolver x = new RegularSolver();
        int all = x.again(x.letters(15));
        for (int v = 0; v < 4; v++) {
            x.variable(v, all);
        }
        for (int k = 0; k < 8; k++) {
            x.bound(2, 4, 6, 8, 3 + 2 * k, 3 + 2 * k);
        }
        for (int k = 0; k < 125; k++) {
            x.solve(31);
            x.words(all, 1000);
            x.first(all, 31);
            x.within(all, all);
        }
    }
}
