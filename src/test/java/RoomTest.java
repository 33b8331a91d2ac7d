import com.sun.management.ThreadMXBean;
import java.lang.management.ManagementFactory;

/** Calls make nothing but one longer text and exceptions, and an object is small. */
public final class RoomTest {
    private static final Check CHECK = new Check();
    private static final ThreadMXBean THREADS = (ThreadMXBean) ManagementFactory.getThreadMXBean();

    private RoomTest() {
    }

    public static void main(String[] args) {
        DecimalDesk desk = Check.desk(Check.repeat("9", 1000), Check.repeat("7", 1000) + "e-10000", "1e10000", "2");
        dearCalls(desk);
        long start = made();
        dearCalls(desk);
        CHECK.due("many calls make next to nothing", made() - start < 20000, true);
        start = made();
        new DecimalDesk();
        CHECK.due("an object is below 20000 bytes", made() - start < 20000, true);
        CHECK.finish();
    }

    private static long made() {
        return THREADS.getThreadAllocatedBytes(Thread.currentThread().getId());
    }

    private static void dearCalls(DecimalDesk desk) {
        for (int i = 0; i < 50; i++) {
            desk.write(0x3131313131313131L);
            desk.add(0, 0, 4, true);
            desk.multiply(2, 3, 4);
            desk.quotient(0, 1, 4, 1000, 4);
            desk.divide(0, 0, 4, 900, 4);
            desk.remainder(2, 1, 4);
            desk.power(3, 999, 4);
            desk.root(0, 4, 1000, 4);
            desk.round(0, 4, 20, 4);
            desk.toScale(0, 4, -20, 4);
            desk.compare(0, 1);
            desk.written(2, 1);
            desk.written(0, 2);
            desk.read(4);
        }
    }
}
