import java.lang.management.ManagementFactory;

/** No call makes an object: what a run takes of its room is what the constructor makes. */
public final class RoomTest {
    private static final int CALLS = 512;
    private static int wrong = 0;

    private static long made() {
        return ((com.sun.management.ThreadMXBean) ManagementFactory.getThreadMXBean())
            .getThreadAllocatedBytes(Thread.currentThread().getId());
    }

    private static void ask(String what, long bytes, long most) {
        if (bytes <= most) return;
        wrong++;
        System.out.println(what + " made " + bytes + " bytes, at most " + most + " are due");
    }

    private static GhostCoast rich() {
        GhostCoast x = new GhostCoast();
        for (int i = 0; i < 12; i++) x.unit(0, 1);
        for (int i = 0; i < 20; i++) Due.shown(x, i % 6, 100 * (i % 4), 5, 4);
        for (int i = 0; i < 30; i++) x.flight(i, 5, i);
        for (int i = 0; i < 30; i++) x.listen(i);
        for (int i = 0; i < 40; i++) x.prisoner(i % 4, i % 3 == 0);
        x.sheet(0, 8, 6);
        return x;
    }

    private static void dearCalls(GhostCoast x) {
        for (int i = 0; i < CALLS / 16; i++) {
            x.image();
            x.tick(40);
            x.check(0, 0);
            x.undo();
            x.plan(i % 4, 511, 99, 99);
            x.last(i % 4, 511);
            x.judge(i % 4, 511, true);
            x.likely(i % 4, false);
            x.shift();
            x.slip(3);
            x.carry(3);
            x.agree(7, 2);
            x.feed(0x6D617920, 4);
            x.feed(0x6E657420, 4);
            x.text(0, 80);
            x.wipe();
        }
    }

    public static void main(String[] args) {
        made();
        dearCalls(rich());
        long before = made();
        GhostCoast fresh = new GhostCoast();
        ask("the constructor", made() - before, 100000);
        ask("a new object told", fresh.count(7), 0);
        GhostCoast x = rich();
        before = made();
        dearCalls(x);
        ask("a run of " + CALLS + " calls", made() - before, 2000);
        System.out.println(wrong == 0 ? "no call makes an object" : wrong + " take too much room");
        if (wrong != 0) System.exit(1);
    }
}
