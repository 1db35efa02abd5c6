import com.sun.management.ThreadMXBean;
import java.lang.management.ManagementFactory;

/**
 * What a run of 512 calls makes: only submit makes objects, one for each revision, so that all
 * calls together take far less than the room of a run.
 */
public final class RoomTest {
    private static final Check CHECK = new Check("RoomTest");
    private static final ThreadMXBean THREADS = (ThreadMXBean) ManagementFactory.getThreadMXBean();
    private static final String FILES = "file a; file b; file c/d; file e; file f; file g; file h; file i; file j;"
        + "file k; file l; file abcdefghijkl;";
    private static final String LINES = "line ~~>~~; line *~>*~; line ~*>~*; line ~a~>~a~;";
    private static final String VIEWS = "view 0 0 0; view 0 1 1; view 0 2 2; view 0 3 3; view 1 0 0; view 2 0 0;";
    /** Bytes; an object has some 24 of them or more, and an element at most 8. */
    private static final long MOST_MADE = 512 * 1024;
    private static final long MOST_FOR_CALLS = 16 * 1024;

    public static void main(String[] args) {
        Run busy = Run.of(FILES + LINES + VIEWS);
        for (int file = 0; file < 12; file++) {
            busy = busy.then("add 0 " + file + " 0 false; store 0 " + file + " -1");
        }
        busy = busy.then("submit 0 0; sync 1 -1; sync 2 0");
        while (busy.size() < Run.MOST_CALLS) {
            busy = busy.plus(dearCall(busy.size()));
        }
        made(busy);
        long[] bytes = made(busy);
        CHECK.due("an object and its calls make few bytes: " + bytes[0], bytes[0] <= MOST_MADE, true);
        CHECK.due("512 calls make few bytes: " + bytes[1], bytes[1] <= MOST_FOR_CALLS, true);
        CHECK.end();
    }

    private static String dearCall(int k) {
        return switch (k % 9) {
            case 0 -> "sync 0 0";
            case 1 -> "sync 0 -1";
            case 2 -> "edit 0 11 0";
            case 3 -> "join 0 10 11 0";
            case 4 -> "resolve 0 11 0";
            case 5 -> "submit 0 0";
            case 6 -> "crash 1";
            case 7 -> "where 0";
            default -> "revert 0 11";
        };
    }

    /** How many bytes all made, and how many the calls. */
    private static long[] made(Run run) {
        long start = THREADS.getCurrentThreadAllocatedBytes();
        DepotServer x = new DepotServer();
        long ready = THREADS.getCurrentThreadAllocatedBytes();
        for (int k = 0; k < run.size(); k++) {
            run.calls().get(k).on(x);
        }
        long end = THREADS.getCurrentThreadAllocatedBytes();
        return new long[] {end - start, end - ready};
    }
}
