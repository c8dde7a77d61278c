import java.lang.management.ManagementFactory;

/** What a run makes is counted: a new object is small, and no call makes anything. */
public final class RoomTest {
    private static final Check CHECK = new Check("RoomTest");
    private static final com.sun.management.ThreadMXBean THREAD =
        (com.sun.management.ThreadMXBean) ManagementFactory.getThreadMXBean();

    private static long made() {
        return THREAD.getThreadAllocatedBytes(Thread.currentThread().getId());
    }

    public static void main(String[] args) {
        LastLamps[] kept = new LastLamps[3];
        for (int i = 0; i < kept.length; i++) {
            long before = made();
            kept[i] = new LastLamps();
            long bytes = made() - before;
            if (i > 0) CHECK.holds("an object has " + bytes + " bytes", bytes < 64 * 1024);
        }
        for (int i = 0; i < kept.length; i++) {
            long before = made();
            everyCall(kept[i]);
            long bytes = made() - before;
            // The first time round the machine itself may make things (constants of the class).
            if (i > 0) CHECK.holds("the calls made " + bytes + " bytes", bytes < 256);
        }
        CHECK.end();
    }

    private static final long[] TEXT = text("places 8;out 0 2;way 0 1 2 dark 2;way 0 2 3 dark 3;way 0 3 4 dark 4 fills 20;way 0 4 5;way 1 2 1 bad 9;");

    private static long[] text(String s) {
        long[] bytes = new long[s.length()];
        for (int i = 0; i < bytes.length; i++) bytes[i] = s.charAt(i);
        return bytes;
    }

    private static int everyCall(LastLamps x) {
        for (int i = 0; i < TEXT.length; i++) x.feed(1, TEXT[i]);
        int sum = x.pit() + x.fault() + x.way(0, 2) + x.fall(4, false) + x.count(3);
        x.man(0, true, false);
        x.man(4, true, false);
        for (int p = 1; p < 5; p++) x.man(p, false, p == 2);
        x.lamp(4, 20);
        sum += x.told(0, 0) + x.light(0, 1) + x.moves(0, 0, true) + x.soonest(1, 0, 0, 5, false) + x.last(2, 9, true)
            + x.open(3, 4, false) + x.most(60) + x.cut(3) + x.up(1, -1) + x.lent(0, 2) + x.mark(0, 1, 0)
            + x.tells(0, 50, 0, 2) + x.toldBest(0, 50, 0, 0) + x.byTwo(0, 50, 1, 60, 0, 2) + x.tooLate(0, 50, 3)
            + x.go(1) + x.go(0) + x.judge(0, 0, 0, 0) + x.opens(0, 5) + x.safe(0, 9) + x.safest(4, 0, 50)
            + x.knock(3, 600) + x.keep(0) + x.goBack(0) + x.clear();
        x.feed(1, 'x');
        return sum + x.pit();
    }
}
