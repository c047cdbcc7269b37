import java.lang.management.ManagementFactory;

/** Calls make no objects: all room is taken when an object is made, and that is little. */
public final class RoomTest {
    private static final int OBJECTS = 50;

    public static void main(String[] args) {
        work(new NoticeBoxes());
        long before = taken();
        NoticeBoxes[] made = new NoticeBoxes[OBJECTS];
        for (int i = 0; i < OBJECTS; i++) {
            made[i] = new NoticeBoxes();
        }
        long making = (taken() - before) / OBJECTS;
        before = taken();
        for (NoticeBoxes one : made) {
            work(one);
        }
        long working = (taken() - before) / OBJECTS;
        Check.holds("an object takes less than 60,000 bytes: " + making, making < 60_000);
        Check.holds("512 calls take nothing more: " + working, working < 1_000);
        Check.end();
    }

    private static long taken() {
        return ((com.sun.management.ThreadMXBean) ManagementFactory.getThreadMXBean()).getCurrentThreadAllocatedBytes();
    }

    private static void work(NoticeBoxes one) {
        int sum = 0;
        for (int i = 0; i < 6; i++) {
            sum += one.broker(i) + one.client(i) + one.wish(i, 3, i, 3, 9 - i, 0, 0) + one.wish(i, 1, i, 3, i, 2, i);
        }
        for (int i = 0; i < 32; i++) {
            sum += one.most(1 + i % 9) + one.told(5) + one.drift(8) + one.leave(i % 6) + one.put(i % 7, i % 10, 1, 2);
            sum += one.come(i % 6, i % 7) + one.would(i % 7, 1, 2, 3, i % 4) + one.undo(1) + one.box(0, 1, 0, i % 8);
            sum += one.write(0, i) + one.keep(i % 2) + one.part() + one.goBack(i % 2) + one.told(9);
        }
        Check.holds("it worked", sum != 0);
    }
}
