import com.sun.management.ThreadMXBean;
import java.lang.management.ManagementFactory;

/** An object and its 512 calls, the dearest ones, keep to the room that a run of calls has. */
public final class RoomTest {
    private static final Check CHECK = new Check();
    private static final ThreadMXBean THREADS = (ThreadMXBean) ManagementFactory.getThreadMXBean();

    /** 7.3 million elements, were each of them an int. */
    private static final long BYTES_OF_ROOM = 7300000L * 4;
    private static final int CALLS = 512;
    private static final String[] NUMBERS = {"9".repeat(1000), "7".repeat(1000) + "e-10000", "1e10000", "2"};

    private RoomTest() {
    }

    public static void main(String[] args) {
        CHECK.due("a first run's bytes fit", bytesOfRun() < BYTES_OF_ROOM, true);
        CHECK.due("a second run's bytes fit", bytesOfRun() < BYTES_OF_ROOM, true);
        CHECK.finish();
    }

    private static long made() {
        return THREADS.getThreadAllocatedBytes(Thread.currentThread().getId());
    }

    private static long bytesOfRun() {
        long start = made();
        DecimalDesk desk = Check.desk(NUMBERS);
        int used = 0;
        for (String number : NUMBERS) {
            used += Check.callsToSet(number);
        }
        for (int i = 0; used + i < CALLS; i++) {
            dearCall(desk, i % 12);
        }
        return made() - start;
    }

    private static void dearCall(DecimalDesk desk, int i) {
        switch (i) {
            case 0: desk.add(0, 0, 4, true); break;
            case 1: desk.multiply(2, 3, 4); break;
            case 2: desk.quotient(0, 1, 4, 1000, 4); break;
            case 3: desk.divide(0, 0, 4, 900, 4); break;
            case 4: desk.remainder(2, 1, 4); break;
            case 5: desk.power(3, 999, 4); break;
            case 6: desk.root(0, 4, 1000, 4); break;
            case 7: desk.round(0, 4, 20, 4); break;
            case 8: desk.toScale(0, 4, -20, 4); break;
            case 9: desk.compare(0, 1); break;
            case 10: desk.written(2, 1); break;
            default: desk.written(0, 2);
        }
    }
}
