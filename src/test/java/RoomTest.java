import com.sun.management.ThreadMXBean;
import java.lang.management.ManagementFactory;

/** All calls of a run live in one room: an object is made of few pieces, and no call makes anything more. */
public final class RoomTest {
    private static final int OBJECTS = 100;
    private static final long BYTES_OF_ONE = 160_000;

    private static final ThreadMXBean BEAN = (ThreadMXBean) ManagementFactory.getThreadMXBean();

    public static void main(String[] args) {
        Tester test = new Tester("RoomTest");
        long empty = 0;
        long used = 0;
        long made = 0;
        // the first rounds load classes and are not counted
        for (int i = 0; i < 20; i++) {
            long before = bytes();
            empty = bytes() - before;
            before = bytes();
            NoEcho x = make();
            made = bytes() - before - empty;
            before = bytes();
            int sum = allCalls(x);
            used = bytes() - before - empty;
            test.due("the calls do something", sum != 0, true);
        }
        test.due("a new object takes " + made + " bytes", made <= BYTES_OF_ONE, true);
        test.due("calls make nothing, " + used + " bytes", used <= 0, true);
        NoEcho[] many = new NoEcho[OBJECTS];
        for (int i = 0; i < OBJECTS; i++) {
            many[i] = make();
        }
        test.due("many objects", many[OBJECTS - 1].count(5), 1);
        test.end();
    }

    private static long bytes() {
        return BEAN.getCurrentThreadAllocatedBytes();
    }

    private static NoEcho make() {
        return new NoEcho();
    }

    /** Some 250 calls, the searches among them, over things of all lengths and a law that asks every letter. */
    private static int allCalls(NoEcho x) {
        int sum = 0;
        for (int t = 0; t < 12; t++) {
            sum += x.feed(0x612B0000, 0, 0, 0, 0);
            sum += x.thing(t, 2);
        }
        // n(l=a|[l*l+t+s+c+b+r+d+k]%7=1)
        for (int w = 0; w < 2; w++) {
            sum += x.feed(0x6E286C3D, 0x617C5B6C, 0x2A6C2B74, 0x2B732B63, 0x2B622B72);
            sum += x.feed(0x2B642B6B, 0x5D25373D, 0x31290000, 0, 0);
            sum += x.law(w, 30);
        }
        for (int i = 0; i < 6; i++) {
            sum += x.colour(i, i % 4) ? 1 : 0;
            sum += x.seed(i) ? 1 : 0;
            sum += x.draw(20) + x.keep() + x.say(i, i, i + 1) + x.may(0, i, i, 3) + x.ways(1, i, i);
            sum += x.undo() ? 1 : 0;
            sum += x.said(i, 3) + x.paid(i) + x.lengths(i) + x.count(20 + i);
            sum += x.feed(1, 2, 3, 4, 5) + x.judged(0, 6);
            sum += x.feed(0x00010203, 0x00010203, 0, 0, 0) + x.held(1 + i % 3, 10, -1);
            sum += x.feed(0x00010000, 0, 0x00010000, 0, 0) + x.coded(2 + i % 4, 6, 20);
            sum += (int) (x.feed(0x00010002, 0x01030201, 0x00040102, 0x02030405, 0) + x.heard(8, -1));
            sum += x.anyTalk(15, 5, -1) + x.silenced(0, 4095, 1, 15, 6, 2) + x.round(i, -1) + x.waited(63, 24 - i);
            sum += x.feed(1, 2, 3, 4, 5) + x.check(5);
        }
        return sum;
    }
}
