import java.lang.management.ManagementFactory;

/** The room that calls take: rows are made with the object, and calls make next to nothing. */
public final class RoomTest {
    private static final int CALLS = 512;

    public static void main(String[] arguments) {
        com.sun.management.ThreadMXBean threads =
                (com.sun.management.ThreadMXBean) ManagementFactory.getThreadMXBean();
        long thread = Thread.currentThread().getId();
        use(new RangeGraves());
        long before = threads.getThreadAllocatedBytes(thread);
        RangeGraves x = new RangeGraves();
        long made = threads.getThreadAllocatedBytes(thread) - before;
        use(x);
        long used = threads.getThreadAllocatedBytes(thread) - before - made;
        System.out.println("an object takes " + made + " bytes, and its calls " + used);
        Check.same("an object takes less than 64 KiB", made < 65536 ? 1 : 0, 1);
        Check.same("calls take less than 64 bytes each", used < 64 * CALLS ? 1 : 0, 1);
        Check.end("RoomTest");
    }

    private static void use(RangeGraves x) {
        for (int i = 0; i < CALLS / 16; i++) {
            if (i % 8 == 0) {
                x.save(0);
            }
            if (x.about(4) > 40) {
                x.restore(0);
            }
            x.put(i, 1 + i);
            x.bury(i, 99);
            if (x.about(2) < 5) {
                x.flush();
            } else {
                x.merge(0);
                x.undo();
                x.merge(3);
            }
            x.simulate(i, 60);
            x.runScript(3, 100012000030000L);
            x.fewest();
            x.best();
            x.hidden();
            x.about(7);
            x.run(-1, 4);
            x.next(0, -1);
            x.count(0, 99, -1);
            x.looks(99);
        }
    }
}
