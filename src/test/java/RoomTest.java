import com.sun.management.ThreadMXBean;
import java.lang.management.ManagementFactory;

/**
 * The dearest runs of calls stay small. The room counts objects, fields and elements; here bytes are counted, of which
 * an element takes one at least: a run that stays far below the room in bytes stays below it in elements too.
 */
public final class RoomTest {
    private static final long FRESH = 40_000;
    private static final long RUN = 600_000;

    public static void main(String[] args) {
        ThreadMXBean threads = (ThreadMXBean) ManagementFactory.getThreadMXBean();
        if (!threads.isThreadAllocatedMemorySupported()) {
            System.out.println("this machine does not count what is made");
            return;
        }
        threads.setThreadAllocatedMemoryEnabled(true);
        byte[] widest = widest();
        // Once beforehand, so that classes are loaded when it counts.
        readAgainAndAgain(widest);
        writeAgainAndAgain(widest);
        int self = 0;
        long start = threads.getCurrentThreadAllocatedBytes();
        for (int k = 0; k < 100; k++) {
            self += new StackBytes().look(0);
        }
        long fresh = (threads.getCurrentThreadAllocatedBytes() - start) / 100;
        start = threads.getCurrentThreadAllocatedBytes();
        self += readAgainAndAgain(widest);
        long reads = threads.getCurrentThreadAllocatedBytes() - start;
        start = threads.getCurrentThreadAllocatedBytes();
        self += writeAgainAndAgain(widest);
        long writes = threads.getCurrentThreadAllocatedBytes() - start;
        System.out.println("a new object " + fresh + ", reads " + reads + ", writes " + writes + " (" + self + ")");
        Check.due("a new object is small: " + fresh, fresh < FRESH, true);
        Check.due("reads make little: " + reads, reads < RUN, true);
        Check.due("writes make little: " + writes, writes < RUN, true);
        Check.end();
    }

    private static byte[] widest() {
        ProgramBytes made = new ProgramBytes(12);
        for (int f = 0; f < 12; f++) {
            made.head(0, 0, 0, 0, 100);
            for (int i = 0; i < 99; i++) {
                made.op(ProgramBytes.GUARD, 0);
            }
            made.op(ProgramBytes.RETURN).handlers(0);
        }
        return made.bytes();
    }

    private static int readAgainAndAgain(byte[] bytes) {
        StackBytes x = new StackBytes();
        ProgramBytes.load(x, bytes);
        int sum = 0;
        for (int k = 0; k < 100; k++) {
            sum += x.read();
            x.poke(1, 0);
            sum += x.read();
            x.poke(1, 70);
        }
        return sum;
    }

    private static int writeAgainAndAgain(byte[] bytes) {
        StackBytes x = new StackBytes();
        ProgramBytes.load(x, bytes);
        int sum = x.read();
        for (int k = 0; k < 99; k++) {
            sum += x.change(3, k, ProgramBytes.JUMP, 99);
            sum += x.write();
            sum += x.turnOver() ? 1 : 0;
        }
        return sum;
    }
}
