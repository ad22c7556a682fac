import java.lang.management.ManagementFactory;

/** The dearest runs of calls: what one object makes in 512 calls stays far within the room of a run. */
public final class RoomTest {
    /** An element takes at least a byte, and nearly all are ints; 7.3 million of them are the room. */
    private static final long MOST_BYTES = 14_000_000;
    private static int wrong = 0;

    private interface Run { void go(RingChamber x, int i); }

    private static long bytes() {
        com.sun.management.ThreadMXBean bean = (com.sun.management.ThreadMXBean) ManagementFactory.getThreadMXBean();
        return bean.getThreadAllocatedBytes(Thread.currentThread().getId());
    }

    private static void run(String name, int rounds, Run run) {
        RingChamber x = new RingChamber();
        run.go(x, 0);
        long before = bytes();
        long began = System.nanoTime();
        x = new RingChamber();
        for (int i = 0; i < rounds; i++) run.go(x, i);
        long used = bytes() - before;
        System.out.println("RoomTest: " + name + " made " + used + " bytes in " + (System.nanoTime() - began) / 1000000 + " ms");
        if (used > MOST_BYTES) {
            wrong++;
            System.out.println("RoomTest: " + name + " makes too much");
        }
    }

    private static final String LONG = "stage 8;method a" + new String(new char[16]).replace("\0", " x")
            + " back 18 bob 14 single 1234;";
    private static final String ALL = "stage 8;method a 345678 12 1456 16 bob x single 78;method b 18 bob 1278;"
            + "method c 123456 bob 12 single 38;method d 12 56 bob 34 single 58;";

    public static void main(String[] args) {
        run("touches of 2000 changes", 160, (x, i) -> {
            if (i == 0) Texts.book(x, LONG);
            Texts.touch(x, "loop 99;plain a;end;");
            x.ring();
        });
        run("what is rung", 500, (x, i) -> {
            if (i == 0) {
                Texts.book(x, LONG);
                Texts.touch(x, "loop 99;plain a;end;");
                x.ring();
            }
            switch (i % 5) {
                case 0: x.heardAlike(); break;
                case 1: x.repeats(); break;
                case 2: x.evens(); break;
                case 3: x.dodges(8); break;
                default: x.odds(i, 20, 8);
            }
        });
        run("ways and extents", 500, (x, i) -> {
            if (i == 0) Texts.book(x, ALL);
            if (i % 2 == 0) x.extent();
            else x.way(i * 79);
        });
        run("books and searches", 85, (x, i) -> {
            Texts.book(x, "stage " + (4 + i % 5) + ";method a x 12;method b 34 bob 12;".replace("x", i % 2 == 0 ? "x" : "1"));
            x.extent();
            x.falses(0);
        });
        run("compositions", 500, (x, i) -> {
            if (i == 0) Texts.book(x, "stage 8;method a x 18 x 18 x 18 x 18 back 12 bob 14 single 1234;");
            x.compositions(0, 8, 7);
        });
        run("trays", 512, (x, i) -> x.tray(i % 4, i / 4 % 4, 60));
        if (wrong > 0) System.exit(1);
    }
}
