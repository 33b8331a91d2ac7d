import com.sun.management.ThreadMXBean;
import java.lang.management.ManagementFactory;

/**
 * An object and its 512 calls, the dearest ones, keep to the room that a run of calls has; no call makes
 * anything, but that the first long text has a row made.
 */
public final class RoomTest {
    private static final Check CHECK = new Check();
    private static final ThreadMXBean THREADS = (ThreadMXBean) ManagementFactory.getThreadMXBean();

    /** 7.3 million elements, were each of them an int. */
    private static final long BYTES_OF_ROOM = 7300000L * 4;
    private static final int CALLS = 512;
    private static final int DEAR_CALLS = 12;
    private static final int LIGHT_CALLS = 10;

    /** The characters 1.5e. */
    private static final long DRAFT = 0x65352e31L;

    /** The digits and the size of the scale of a decimal whose text has its place in the first row. */
    private static final int SHORT_TEXT = 1080;
    private static final String[] NUMBERS = {"9".repeat(1000), "7".repeat(1000) + "e-10000", "1e10000", "2"};

    private RoomTest() {
    }

    public static void main(String[] args) {
        CHECK.due("a first run's bytes fit", bytesOfRun() < BYTES_OF_ROOM, true);
        CHECK.due("a second run's bytes fit", bytesOfRun() < BYTES_OF_ROOM, true);
        dearCalls();
        lightCalls();
        texts();
        CHECK.finish();
    }

    private static void dearCalls() {
        DecimalDesk desk = Check.desk(NUMBERS);
        desk.written(2, 1);
        for (int i = 0; i < DEAR_CALLS; i++) {
            long start = made();
            dearCall(desk, i);
            long bytes = made() - start;
            CHECK.due("the bytes that dear call " + i + " makes", bytes, 0L);
        }
    }

    /** With those that dearCall has, every call of the face; the first time round classes may be loaded. */
    private static void lightCalls() {
        DecimalDesk desk = Check.desk(NUMBERS);
        for (int round = 0; round < 2; round++) {
            for (int i = 0; i < LIGHT_CALLS; i++) {
                long start = made();
                lightCall(desk, i);
                long bytes = made() - start;
                if (round > 0) {
                    CHECK.due("the bytes that light call " + i + " makes", bytes, 0L);
                }
            }
        }
    }

    private static void lightCall(DecimalDesk desk, int i) {
        switch (i) {
            case 0: desk.write(DRAFT); break;
            case 1: desk.write('3'); break;
            case 2: desk.read(4); break;
            case 3: desk.wipe(); break;
            case 4: desk.put(4, Long.MIN_VALUE, 5); break;
            case 5: desk.strip(2, 4); break;
            case 6: desk.shift(0, 4, 7); break;
            case 7: desk.negate(0, 4); break;
            case 8: desk.told(0, 1002); break;
            default: desk.character(0);
        }
    }

    private static void texts() {
        DecimalDesk desk = new DecimalDesk();
        desk.put(0, 1, 1 - SHORT_TEXT);
        desk.put(1, 1, -SHORT_TEXT);
        desk.put(2, 1, -10000);
        CHECK.due("the bytes for a short text", bytesOfText(desk, 0), 0L);
        CHECK.due("bytes for the first long one", bytesOfText(desk, 1) > 0, true);
        CHECK.due("the bytes for a second", bytesOfText(desk, 2), 0L);
        CHECK.due("the bytes for a short one again", bytesOfText(desk, 0), 0L);
    }

    private static long bytesOfText(DecimalDesk desk, int register) {
        long start = made();
        desk.written(register, 1);
        return made() - start;
    }

    private static long made() {
        return THREADS.getThreadAllocatedBytes(Thread.currentThread().getId());
    }

    private static long bytesOfRun() {
        long start = made();
        DecimalDesk desk = Check.desk(NUMBERS);
        int used = 0;
        for (String number : NUMBERS) {
            used += Check.callsToSet(number);
        }
        for (int i = 0; used + i < CALLS; i++) {
            dearCall(desk, i % DEAR_CALLS);
        }
        return made() - start;
    }

    private static void dearCall(DecimalDesk desk, int i) {
        switch (i) {
            case 0: desk.add(0, 0, 4, true); break;
            case 1: desk.multiply(2, 3, 4); break;
            case 2: desk.quotient(0, 1, 4, 1000, 4); break;
            case 3: desk.divide(0, 0, 4, 900, 4); break;
            case 4: desk.remainder(2, 1, 4); break;
            case 5: desk.power(3, 999, 4); break;
            case 6: desk.root(0, 4, 1000, 4); break;
            case 7: desk.round(0, 4, 20, 4); break;
            case 8: desk.toScale(0, 4, -20, 4); break;
            case 9: desk.compare(0, 1); break;
            case 10: desk.written(2, 1); break;
            default: desk.written(0, 2);
        }
    }
}
