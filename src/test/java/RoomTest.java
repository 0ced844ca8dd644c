import java.lang.management.ManagementFactory;

/** A run lives in one small room: objects are small, and calls that are not refused make nothing at all. */
public final class RoomTest {
    private static final com.sun.management.ThreadMXBean THREADS =
        (com.sun.management.ThreadMXBean) ManagementFactory.getThreadMXBean();
    private static final String[] TEXTS = {
        "board 3 20 2;".repeat(16) + "barge 9 0;barge 9 9;barge 0 0;barge 9 95;flow 1;street 0 15 31;street 3 9 9;"
            + "fish 3 40;fish 9 30;smell 4;",
        "least[(hour-12)*(day+1)%7,fined*3-most[board,clear+bears*drains]]-fish/2+fined%3",
        "again 60 [lift 0;shut 1;hour;leave 0;];",
        "3 1;9 4;15 6;"};

    public static void main(String[] args) {
        LiddedRiver warm = new LiddedRiver();
        run(warm);
        long before = bytes();
        LiddedRiver x = new LiddedRiver();
        long made = bytes();
        Checks.same("a new object takes no more than 64 KiB", made - before <= 65536 ? 1 : 0, 1);
        made = bytes();
        run(x);
        long behind = bytes();
        Checks.same("calls make nothing: " + (behind - made), behind - made <= 1024 ? 1 : 0, 1);
        Checks.end();
    }

    private static long bytes() {
        return THREADS.getThreadAllocatedBytes(Thread.currentThread().getId());
    }

    private static void run(LiddedRiver x) {
        x.river(Checks.feed(x, TEXTS[0]));
        x.law(Checks.feed(x, TEXTS[1]));
        x.work(Checks.feed(x, TEXTS[2]));
        x.book(Checks.feed(x, TEXTS[3]));
        x.image();
        for (int i = 0; i < 4; i++) {
            x.told(i);
            x.board(i, i);
            x.barge(i, i);
            x.lawful(i, i, i);
            x.opens(i);
            x.often(i, 240);
            x.busiest();
            x.tallest(i);
            x.hold(9, i);
            x.flood(3);
            x.holds(99);
            x.smells(i, 999);
            x.openers(i);
            x.anglers(4, i % 2);
            x.nose(i % 2);
            x.stand(i, 4);
            x.walk(i, 15, 3);
            x.reach(i, 3);
            x.peak(i % 2);
            x.worst(i % 2);
            x.soonest(9, 48, i % 2);
            x.winters(i, 5, 240, i);
        }
        x.street(0, 3);
        x.trip(9, 0, 1);
        x.letter(0, 0);
        x.narrow(3, 1);
        x.ahead(240, 1);
        x.span(7, 20, 5, 240, 0);
        x.fault();
        x.undo();
        x.restore();
        x.status(0);
        x.count(0);
    }
}
