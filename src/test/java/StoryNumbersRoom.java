import com.sun.management.ThreadMXBean;
import java.lang.management.ManagementFactory;
import java.util.function.Consumer;

/** All calls live in one room: an object's rows are made once, and later calls make nothing new. */
public final class StoryNumbersRoom extends Answers {
    private static final ThreadMXBean THREADS = (ThreadMXBean) ManagementFactory.getThreadMXBean();
    /** Some 48,000 elements of four bytes each, and as much again to spare. */
    private static final long MOST_BYTES_OF_AN_OBJECT = 400_000;
    /** What the counting itself may make. */
    private static final long SPARE = 2_000;

    private static long made() {
        return THREADS.getThreadAllocatedBytes(Thread.currentThread().getId());
    }

    private static void everyCall(StoryNumbers x, int turn) {
        x.law(5, turn % 20);
        x.never(turn % 7, 7, turn % 2 == 0);
        x.orders(1023);
        x.order(1023, turn, 9);
        x.good();
        x.place(0, 1);
        x.atOnce(1023);
        x.along(0);
        x.shortest(9, 1);
        x.may(0, 1);
        x.next(0);
        x.open(0);
        x.plan(4, 1023 - turn, 1);
        x.kind(3, turn % 256, 0);
        x.add(0);
        x.lines();
        x.drop();
        x.keep(turn % 2);
        x.goBack(turn % 2);
        x.chapter(1, 0);
        x.readers();
        x.number(0, 2);
        x.scene(0, 0);
        x.count(4);
        x.feed(8, turn);
        x.story();
        x.fault();
    }

    private static long madeBy(Consumer<StoryNumbers> calls, StoryNumbers x) {
        long before = made();
        calls.accept(x);
        return made() - before;
    }

    public static void main(String[] args) {
        StoryNumbers warm = told(TEN);
        Consumer<StoryNumbers> nineteenTurns = x -> {
            for (int turn = 0; turn < 19; turn++) {
                everyCall(x, turn);
            }
        };
        nineteenTurns.accept(warm);
        madeBy(nineteenTurns, warm);
        long before = made();
        StoryNumbers x = new StoryNumbers();
        long object = made() - before;
        tell(x, TEN);
        object += madeBy(y -> y.plan(1, 1, 0), x);
        long calls = madeBy(nineteenTurns, x);
        due("bytes of an object are too many: " + object, object > MOST_BYTES_OF_AN_OBJECT ? 1 : 0, 0);
        due("bytes made by 500 calls are too many: " + calls, calls > SPARE ? 1 : 0, 0);
        System.out.println("an object makes " + object + " bytes, 500 calls " + calls);
        end("room");
    }
}
