import java.lang.management.ManagementFactory;

/**
 * The room: all objects of a run live at once, so a new object must be small, and no call may make more.
 * The calls are the dearest ones, on a full poem.
 */
public final class RoomTest {
    private static final int CALLS = 512;
    private static final long MOST_BYTES_AT_FIRST = 16_000;

    public static void main(String[] args) {
        // The machine may make something of its own in one try, but hardly in all of them.
        long made = Long.MAX_VALUE;
        long more = Long.MAX_VALUE;
        for (int tries = 0; tries < 8; tries++) {
            made = Math.min(made, bytesOfNew());
            more = Math.min(more, bytesOfCalls(new VerseSetter()));
        }
        System.out.println("a new object: " + made + " bytes; " + CALLS + " calls: " + more + " bytes more");
        if (made > MOST_BYTES_AT_FIRST || more > 0) {
            System.out.println("due are at most " + MOST_BYTES_AT_FIRST + " bytes, and none more");
            System.exit(1);
        }
    }

    private static long allocated() {
        return ((com.sun.management.ThreadMXBean) ManagementFactory.getThreadMXBean()).getCurrentThreadAllocatedBytes();
    }

    /** The counter itself makes a little, so what it makes alone is taken off. */
    private static long idle() {
        long before = allocated();
        return allocated() - before;
    }

    private static long bytesOfNew() {
        long idle = idle();
        long before = allocated();
        VerseSetter setter = new VerseSetter();
        long made = allocated() - before - idle;
        return setter.count(7) == 0 ? made : 0;
    }

    private static long bytesOfCalls(VerseSetter setter) {
        long idle = idle();
        long before = allocated();
        for (int n = 0; n < CALLS; n++) {
            call(setter, n % 22, n / 22);
        }
        return allocated() - before - idle;
    }

    private static void call(VerseSetter setter, int kind, int n) {
        switch (kind) {
            case 0: setter.drift(40); break;
            case 1: setter.line(n % 4, n % 2); break;
            case 2: setter.word(n % 9 + 1, n % 4); break;
            case 3: setter.rhyme(n % 12, n % 4); break;
            case 4: setter.tell(0, 40 - n % 3); break;
            case 5: setter.of(n % 12, 7); break;
            case 6: setter.said(n % 12, 0, 3); break;
            case 7: setter.count(9 + n % 3); break;
            case 8: setter.page(0, 2); break;
            case 9: setter.stanza(n % 3, 4); break;
            case 10: setter.settings(n % 12); break;
            case 11: setter.whole(n % 11, 0); break;
            case 12: setter.type('A' + n % 4); break;
            case 13: setter.image(); break;
            case 14: setter.restore(); break;
            case 15: setter.undo(); break;
            case 16: setter.sheet(n % 4, n % 4, 24); break;
            case 17: setter.film(n % 4, n % 4, 3); break;
            case 18: setter.cuts(n % 4, n % 4, 3, 4); break;
            case 19: setter.copy(n % 4, 0, n % 4, 1, 23); break;
            case 20: setter.item(n % 4, n % 4, 3, 12L); break;
            default: if (n % 5 == 4) setter.read(); else setter.drop(); break;
        }
    }
}
