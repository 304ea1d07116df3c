import java.lang.management.ManagementFactory;

/** The room that a run of calls takes: an object takes little, and its calls take nothing. */
public final class RoomTest {
    private static final Check CHECK = new Check("RoomTest");
    private static final com.sun.management.ThreadMXBean BEAN =
            (com.sun.management.ThreadMXBean) ManagementFactory.getThreadMXBean();

    public static void main(String[] args) {
        work(new ForwardingTable());
        long before = allocated();
        ForwardingTable x = new ForwardingTable();
        long made = allocated() - before;
        System.out.println("RoomTest: an object takes " + made + " bytes");
        CHECK.due("an object takes at most 200000 bytes", made <= 200_000, true);
        before = allocated();
        work(x);
        long taken = allocated() - before;
        System.out.println("RoomTest: its calls take " + taken + " bytes");
        CHECK.due("its calls take nothing (but what the measuring takes)", taken <= 1_000, true);
        CHECK.end();
    }

    private static long allocated() {
        return BEAN.getThreadAllocatedBytes(Thread.currentThread().getId());
    }

    private static void work(ForwardingTable x) {
        for (int i = 0; i < 60; i++) {
            x.addRoute(i << 24 | i << 12, 20 + i % 13, i % 16);
            x.packet(i << 24 | i << 12, 1 + i);
            x.sync(7);
            x.missedAfter(9);
            x.reportLength(i % 5);
        }
        x.costliest();
        x.redundant();
        x.runs();
        x.hardwareAddresses();
        x.append(0x63617061, 0x63697479, 0x31323b72, 0x6f757465, 0x312e322e);
        x.append(0x332e342f, 0x3332686f, 0x7031353b, 0x20202020, 0x0a0a0a0a);
        x.undo();
        x.load();
    }
}
