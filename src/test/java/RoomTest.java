import java.lang.management.ManagementFactory;

/** All calls of a run live in one room: behind the constructor a call makes nothing, and the constructor makes little. */
public final class RoomTest {
    private static final int CALLS = 512;

    private static com.sun.management.ThreadMXBean meter() {
        return (com.sun.management.ThreadMXBean) ManagementFactory.getThreadMXBean();
    }

    public static void main(String[] args) {
        com.sun.management.ThreadMXBean meter = meter();
        long thread = Thread.currentThread().getId();
        run(new SignBoard());
        long start = meter.getThreadAllocatedBytes(thread);
        SignBoard board = new SignBoard();
        long made = meter.getThreadAllocatedBytes(thread);
        run(board);
        long end = meter.getThreadAllocatedBytes(thread);
        System.out.println("the constructor makes " + (made - start) + " bytes, the calls " + (end - made));
        Check.due("the constructor makes at most 80000 bytes", made - start <= 80000, true);
        Check.due("the calls make next to nothing", end - made <= 2000, true);
        Check.finish();
    }

    private static void feedWord(SignBoard b) {
        // "sign open wide 4 left 01010 right 00001;word 0 0 0;writer white 9 slip 50", 73 bytes
        b.feed(0x7369676e, 0x206f7065, 0x6e207769, 0x64652034, 0x206c6566);
        b.feed(0x74203031, 0x30313020, 0x72696768, 0x74203030, 0x3030313b);
        b.feed(0x776f7264, 0x20302030, 0x20303b77, 0x72697465, 0x72207768);
        b.feed(0x69746520, 0x3920736c, 0x69702035, 0x30202020, 0x20202020);
        b.shop();
    }

    private static void run(SignBoard b) {
        feedWord(b);
        for (int call = 0; call < CALLS; call++) {
            b.feed(0x66616465, 0x20313020, 0x6966206c, 0x69676874, 0x203c2033);
            b.law();
            b.shift(call % 2, call % 31);
            b.squeezed(call % 3, call % 4);
            b.shadow(call % 10);
            b.paint(0);
            b.undo();
            b.laid(call, 0);
            b.best(true);
            b.squeeze(call, true);
            b.span(0, 40, true);
            b.middle(true);
            b.lamp();
            b.brush();
            b.order(call);
            b.image();
            b.back();
            b.wrote();
            b.likely(0);
            b.dropped(call);
            b.inch(call);
            b.from();
            b.slips(-1);
            b.log(call, 0);
            b.nearest(0, call);
            b.runs(1, 0);
            b.bears(1, 0);
        }
    }
}
