import java.lang.management.ManagementFactory;

/** A run of the most calls makes nothing but what the constructor made: the room of a run is small. */
public final class RoomTest {
    private static final long ALLOWED_BYTES = 16_384;

    public static void main(String[] args) {
        com.sun.management.ThreadMXBean threads =
            (com.sun.management.ThreadMXBean) ManagementFactory.getThreadMXBean();
        HillWays x = new HillWays();
        allCalls(x);
        long before = threads.getCurrentThreadAllocatedBytes();
        for (int round = 0; round < 20; round++) {
            allCalls(x);
        }
        long made = threads.getCurrentThreadAllocatedBytes() - before;
        System.out.println("bytes made by calls: " + made);
        if (made > ALLOWED_BYTES) {
            System.exit(1);
        }
    }

    private static void allCalls(HillWays x) {
        for (int way = 0; way < 13; way++) {
            for (int place = 0; place < 6; place++) {
                x.letter('0' + (way + place * (way % 2 == 0 ? 1 : 3)) % 8);
            }
            x.fault();
            x.valley();
            x.way();
            x.blank();
        }
        for (int net = 0; net < 8; net++) {
            x.exchange(net, net == 3);
            x.tell(net, 7 - net, 1);
            x.near(net, 7 - net, 1);
            x.seen(net, 2);
        }
        x.digest();
        x.drop(0);
    }
}
