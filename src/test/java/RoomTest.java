import com.sun.management.ThreadMXBean;
import java.lang.management.ManagementFactory;

/** What a run makes stays small: rows are made once and used again. */
final class RoomTest {
    private static final ThreadMXBean BEAN = (ThreadMXBean) ManagementFactory.getThreadMXBean();
    private static final String FAILING = "var a,b,c;proc m{var d,e;while !(a&b&c&d&e){if a&b&c&d{e=!e;}if a&b&c{d=!d;}"
        + "if a&b{c=!c;}if a{b=!b;}a=!a;call n;}assert 0;}proc n{var x;if *{call n;}else{x=*;}}";

    private final Due due = new Due("RoomTest");

    public static void main(String[] args) {
        RoomTest test = new RoomTest();
        // What the first use of the classes makes is not the object's.
        useAll(new StackPrograms(), 2);
        test.newObjects();
        test.manyCalls();
        test.due.close();
    }

    private static long made() {
        return BEAN.getThreadAllocatedBytes(Thread.currentThread().getId());
    }

    private void newObjects() {
        StackPrograms[] kept = new StackPrograms[100];
        long before = made();
        for (int i = 0; i < kept.length; i++) {
            kept[i] = new StackPrograms();
        }
        long each = (made() - before) / kept.length;
        due.holds("a new object is small: " + each + " bytes", each < 16384);
    }

    private void manyCalls() {
        StackPrograms x = new StackPrograms();
        long start = made();
        useAll(x, 1);
        long first = made() - start;
        due.holds("the rows of one object: " + first + " bytes", first < 1000000);
        useAll(x, 30);
        long more = made() - start - first;
        due.holds("later calls make next to nothing: " + more + " bytes", more < 100000);
    }

    /** Each round has each of the dear calls, each after a change. */
    private static void useAll(StackPrograms x, int rounds) {
        for (int round = 0; round < rounds; round++) {
            x.clear();
            x.drop();
            for (int i = 1; i <= 10; i++) {
                x.rule(0, i, 0, 2, i - 1, i - 1);
            }
            x.rule(0, 0, 0, 0, 0, 0);
            x.end(0, 1);
            x.push(9);
            x.far(0);
            x.way(0, 1022);
            x.after(0);
            for (int at = 0; at < FAILING.length(); at += 8) {
                long w = 0;
                int n = Math.min(8, FAILING.length() - at);
                for (int i = n - 1; i >= 0; i--) {
                    w = w << 8 | FAILING.charAt(at + i);
                }
                x.type(w, n);
            }
            x.read();
            x.check();
            x.trace(0, 0);
        }
    }
}
