import com.sun.management.ThreadMXBean;
import java.lang.management.ManagementFactory;

/** All calls of a run live in one room: an object is small, and its calls make next to nothing. */
public final class AllocationTest {
    private static final long MOST_OF_AN_OBJECT = 12_000;
    private static final long MOST_OF_A_RUN = 20_000;

    private AllocationTest() {
    }

    public static void main(String[] args) {
        ThreadMXBean threads = (ThreadMXBean) ManagementFactory.getThreadMXBean();
        // The first round loads the classes, whose own objects are not meant.
        long object = 0;
        long run = 0;
        for (int round = 0; round < 3; round++) {
            long start = threads.getCurrentThreadAllocatedBytes();
            IntoTheCorner x = new IntoTheCorner();
            long made = threads.getCurrentThreadAllocatedBytes();
            dearestCalls(x);
            object = made - start;
            run = threads.getCurrentThreadAllocatedBytes() - made;
        }
        System.out.println("an object: " + object + " bytes, its dearest calls: " + run + " bytes");
        if (object > MOST_OF_AN_OBJECT || run > MOST_OF_A_RUN) {
            System.out.println("that is too much");
            System.exit(1);
        }
    }

    private static void dearestCalls(IntoTheCorner x) {
        // "r1*2;r1*1;r1*1;r1*1;r1*1;" and doors from the yard, then "d..../....."
        x.feed(8, 0x2A31_723B_322A_3172L);
        x.feed(8, 0x723B_312A_3172_3B31L);
        x.feed(8, 0x312A_3172_3B31_2A31L);
        x.feed(1, ';');
        x.house();
        x.feed(8, 0x3B32_3064_3B31_3064L);
        x.feed(8, 0x3B34_3064_3B33_3064L);
        x.feed(4, 0x3B35_3064L);
        x.house();
        x.feed(8, 0x2E2E_2F2E_2E2E_2E64L);
        x.feed(3, 0x2E_2E2EL);
        x.floor();
        for (int i = 0; i < 60; i++) {
            x.soonest();
            x.fewest(5);
            x.judged(0);
            x.out();
            x.image();
            x.on();
        }
        if (x.count(0) != 5 || x.count(1) != 5 || x.count(3) != 6 || x.out() != 10) {
            throw new IllegalStateException("these are not the dearest calls");
        }
    }
}
