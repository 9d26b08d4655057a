import com.sun.management.ThreadMXBean;
import java.lang.management.ManagementFactory;

/** A run has one room for all that its calls make: calls that do not throw must make nothing. */
public final class RoomTest {
    private static final int CALLS = 50_000;
    private static final long SPARE_BYTES = 100_000;

    public static void main(String[] args) {
        ThreadMXBean threads = (ThreadMXBean) ManagementFactory.getThreadMXBean();
        long id = Thread.currentThread().getId();
        JobBoard board = new JobBoard(4);
        for (int s = 0; s < 4; s++) {
            board.field(s, 0, s);
            for (int p = 0; p < 3; p++) {
                board.form(s, p, 7, p, 0);
            }
        }
        board.order(0);
        round(board);
        long before = threads.getThreadAllocatedBytes(id);
        int calls = 0;
        while (calls < CALLS) {
            calls += round(board);
        }
        long made = threads.getThreadAllocatedBytes(id) - before;
        System.out.println(calls + " calls made " + made + " bytes of objects");
        if (made > SPARE_BYTES) {
            System.exit(1);
        }
    }

    private static int round(JobBoard board) {
        board.find(1, 3, 3);
        board.find(2, 2, 2);
        board.put(0, 1);
        board.put(0, 0);
        board.open(3);
        board.put(3, 1);
        board.find(3, 1, 1);
        board.swap(0);
        board.fold(0, 0, 1);
        board.commit(3);
        board.put(0, 0);
        board.tick(1);
        board.collect(0);
        board.stop(1);
        board.stop(2);
        board.open(0);
        board.find(0, 1, 1);
        board.renew(0, board.seen(0, 0), 5);
        board.abandon(0);
        board.forget(0, -1);
        board.field(0, 0, 5);
        int calls = 21;
        while (board.find(0, 1, 1) != JobBoard.NONE && calls < 100) {
            calls++;
        }
        return calls;
    }
}
