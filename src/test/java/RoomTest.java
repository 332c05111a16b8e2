import com.sun.management.ThreadMXBean;
import java.lang.management.ManagementFactory;

/** All calls of a run live in one room: what 512 of the dearest calls make stays far below it. */
public final class RoomTest {
    private static final Check CHECK = new Check();
    /** A tenth of the room of 7.3 million fields and elements, of four bytes each. */
    private static final long MOST_BYTES = 730_000L * 4;
    /** Those that are left of 512 behind the ones that fill the state and the text. */
    private static final int CALLS = 190;

    private static final ThreadMXBean THREADS = (ThreadMXBean) ManagementFactory.getThreadMXBean();

    public static void main(String[] args) {
        Call[] dearest = {LectureTurns::play, x -> x.fault(0), x -> x.together(0), x -> x.set(0, 7),
            x -> x.correct(14, 15), x -> x.would(14, 3), x -> x.termOf(15, 5), x -> x.speakerOf(0, 4),
            x -> x.speakerOf(0, 6), x -> x.count(7), x -> x.silence(0), x -> x.doubtful(0), x -> x.turnOf(19, 7),
            x -> x.remove(20), x -> x.turn(0, 1, 100)};
        for (int i = 0; i < dearest.length; i++) {
            bytesOf(dearest[i]);
            long bytes = bytesOf(dearest[i]);
            CHECK.holds("dearest call " + i + " makes " + bytes + " bytes", bytes <= MOST_BYTES);
        }
        CHECK.end();
    }

    private static long bytesOf(Call call) {
        long before = THREADS.getCurrentThreadAllocatedBytes();
        LectureTurns x = States.full();
        x.clearText();
        Check.type(x, "c14,15;c14,15;c14,15;c14,15;c14,15;c14,15;c14,15;c14,15;");
        for (int i = 0; i < CALLS; i++) {
            call.on(x);
        }
        return THREADS.getCurrentThreadAllocatedBytes() - before;
    }
}
