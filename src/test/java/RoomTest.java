import com.sun.management.ThreadMXBean;
import java.lang.management.ManagementFactory;

/** All calls of a run share one room, so an object makes its rows when it is made, and no call makes anything more. */
public final class RoomTest {
    private static final Check check = new Check();
    private static final ThreadMXBean THREADS = (ThreadMXBean) ManagementFactory.getThreadMXBean();
    private static final long THREAD = Thread.currentThread().getId();
    private static final int WARM_UPS = 3;
    private static final int CALLS = 512;
    // some 1,200 numbers of four bytes, and what the machine adds to each row
    private static final long MOST_BYTES_OF_OBJECT = 8192;
    private static final int[] TEXT = "w9,b9,a9,s9,h9,w8;9".chars().toArray();

    private static int calls;
    private static long answers;

    public static void main(String[] args) {
        THREADS.setThreadAllocatedMemoryEnabled(true);
        // the first runs load classes, which makes objects that are not ours
        for (int again = 0; again < WARM_UPS; again++) {
            bytesOfObject();
            bytesOfCalls();
        }
        check.due("an object is small", bytesOfObject() <= MOST_BYTES_OF_OBJECT ? 1 : 0, 1);
        check.due("bytes made by 512 calls", bytesOfCalls(), 0);
        check.due("calls", calls, CALLS);
        check.end();
    }

    private static long made() {
        return THREADS.getThreadAllocatedBytes(THREAD);
    }

    private static long bytesOfObject() {
        long before = made();
        MilkRound x = new MilkRound();
        long behind = made();
        answers += x.count(0);
        return behind - before;
    }

    private static long bytesOfCalls() {
        MilkRound x = new MilkRound();
        calls = 0;
        long before = made();
        while (calls < CALLS) {
            everyCall(x, calls);
        }
        return made() - before;
    }

    private static void tell(long answer) {
        calls++;
        answers += answer;
    }

    /** 64 calls, so that eight times make 512. */
    private static void everyCall(MilkRound x, int turn) {
        tell(x.blank());
        for (int sign : TEXT) {
            tell(x.letter(sign));
        }
        tell(x.fault());
        tell(x.round());
        tell(x.image());
        for (int house = 0; house < 6; house++) {
            tell(x.about(house, 8));
            tell(x.as(house, 1));
            tell(x.swap(house, turn % 6));
            tell(x.leave(house, true));
        }
        tell(x.letters(1, 5));
        tell(x.known(0, 12));
        tell(x.sets(0));
        tell(x.sets(1));
        tell(x.ask());
        tell(x.best(0));
        tell(x.best(15));
        tell(x.weeks(60, 77, 0));
        tell(x.day());
        tell(x.digest());
        tell(x.restore());
        tell(x.forget());
        for (int what = 0; what < 5; what++) {
            tell(x.count(what + 5));
        }
    }
}
