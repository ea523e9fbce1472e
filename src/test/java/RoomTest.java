import java.lang.management.ManagementFactory;

/** All calls of one run live in one room: an object and what its calls make have to be small. */
public final class RoomTest {
    private static final com.sun.management.ThreadMXBean THREADS =
        (com.sun.management.ThreadMXBean) ManagementFactory.getThreadMXBean();

    public static void main(String[] args) {
        use(new SmudgeTally());
        long before = made();
        long nothing = made() - before;
        before = made();
        SmudgeTally x = new SmudgeTally();
        long making = made() - before - nothing;
        before = made();
        use(x);
        long using = made() - before - nothing;
        System.out.println("an object takes " + making + " bytes, its calls " + using);
        if (making > 500000 || using > 500000) System.exit(1);
    }

    private static long made() {
        return THREADS.getThreadAllocatedBytes(Thread.currentThread().getId());
    }

    private static void use(SmudgeTally x) {
        for (int card = 0; card < 41; card++) x.scan(card % 2, 545454545454L);
        for (int version = 0; version < 7; version++) {
            x.publish();
            x.set(1, 4 + version % 2);
            x.set(3, 20);
        }
        x.draw(1, 3);
        for (int card = 0; card < 40; card++) x.look(card, 123456789012L);
        for (int time = 0; time < 20; time++) {
            x.take(time % 2);
            x.restore(time % 2);
            x.undo();
            x.clean(1);
            write(x);
            x.run();
            x.clearText();
            x.seedFor(time);
            x.drawn(time);
            x.byLength(2 + time % 8);
            for (int what = 0; what < 15; what++) x.count(what);
            x.tally(0, 5, -1, -1);
            x.changed(time % 6, 0, 0);
            x.leader(time % 4, 1);
            x.error(0, 2);
        }
    }

    private static void write(SmudgeTally x) {
        x.append('c');
        x.append('l');
        x.append('e');
        x.append('a');
        x.append('n');
        x.append('0');
        x.append(';');
    }
}
