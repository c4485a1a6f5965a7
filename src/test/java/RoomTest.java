import com.sun.management.ThreadMXBean;
import java.lang.management.ManagementFactory;

/** The room: making an object takes little of it, and no call takes any. */
public final class RoomTest {
    private static final long MOST_BYTES_OF_AN_OBJECT = 32768;

    public static void main(String[] args) {
        ThreadMXBean bean = (ThreadMXBean) ManagementFactory.getThreadMXBean();
        long id = Thread.currentThread().getId();
        bean.getThreadAllocatedBytes(id);
        RiverChoice x = new RiverChoice();
        allCalls(x);
        x = new RiverChoice();
        allCalls(x);

        long start = bean.getThreadAllocatedBytes(id);
        long nothing = bean.getThreadAllocatedBytes(id) - start;
        start = bean.getThreadAllocatedBytes(id);
        x = new RiverChoice();
        long made = bean.getThreadAllocatedBytes(id) - start - nothing;
        start = bean.getThreadAllocatedBytes(id);
        allCalls(x);
        long called = bean.getThreadAllocatedBytes(id) - start - nothing;

        System.out.println("an object takes " + made + " bytes, its calls take " + called);
        if (made > MOST_BYTES_OF_AN_OBJECT || called > 0) {
            System.out.println("that is too much room");
            System.exit(1);
        }
    }

    private static long allCalls(RiverChoice x) {
        long sum = x.muster(99) + x.man(1, 1, 1, 1, 1, 1) + x.man(1, 2, 3, 4, 5, 6) + x.man(9, 9, 9, 9, 9, 9);
        sum += x.man(0, 0, 1, 0, 0, 0) + x.man(0, 1, 0, 0, 0, 0) + x.man(0, 0, 0, 0, 0, 1) + x.man(1, 0, 0, 0, 0, 0);
        sum += x.worn(0, 3) + x.worn(1, 7) + x.pair(0, 1) + x.pair(1, 2) + x.word(1) + x.word(2);
        for (int i = 0; i < 12; i++) {
            sum += x.test(i % 6, i % 3, i % 2 == 0);
        }
        sum += x.undo() + x.weight(0, 0) + x.cases(3, 0, true) + x.trust(0) + x.shows(0, 0) + x.of(0, 3);
        sum += x.hold(63, 3) + x.keep(3, 2) + x.worth(0, 0, 3, 2) + x.best(3, 2) + x.sift(0, 60, -1) + x.runs(0);
        sum += x.home(100) + x.spy(0) + x.looks(1, true, 0) + x.looks(1, false, 1) + x.next(1) + x.boast(1, 2, 0);
        sum += x.again(0) + x.drawn(63, 30, 1) + x.part(0) + x.image(0) + x.image(1) + x.from(0) + x.status(0);
        sum += x.count(0) + x.digest();
        String text = "muster 5;man 1 0 0 0 0 0;worn 0 1;word 0;";
        for (int i = 0; i < text.length(); i++) {
            sum += x.type(text.charAt(i));
        }
        return sum + x.read() + x.clear();
    }
}
