import java.lang.management.ManagementFactory;

/** A run of many calls makes nothing but what the constructor made, and that is little: the room of a run is small. */
public final class RoomTest {
    private static final int OBJECTS = 20;
    // Room for the virtual machine's own work alone: one new row in the rarest call would already be more.
    private static final long ALLOWED_BYTES = 1_024;
    private static final long ALLOWED_BYTES_OF_ONE = 8_192;

    public static void main(String[] args) {
        com.sun.management.ThreadMXBean threads =
            (com.sun.management.ThreadMXBean) ManagementFactory.getThreadMXBean();
        allCalls(new HillWays());
        HillWays[] objects = new HillWays[OBJECTS];
        long start = threads.getCurrentThreadAllocatedBytes();
        for (int i = 0; i < OBJECTS; i++) {
            objects[i] = new HillWays();
        }
        long between = threads.getCurrentThreadAllocatedBytes();
        for (HillWays x : objects) {
            allCalls(x);
            allCalls(x);
        }
        long byCalls = threads.getCurrentThreadAllocatedBytes() - between;
        long ofOne = (between - start) / OBJECTS;
        System.out.println("bytes of one object: " + ofOne + ", bytes made by calls: " + byCalls);
        if (byCalls > ALLOWED_BYTES || ofOne > ALLOWED_BYTES_OF_ONE) {
            System.exit(1);
        }
    }

    /** Each call of the face; so few that an object may be asked twice and stays below 512. */
    private static void allCalls(HillWays x) {
        for (int way = 0; way < 13; way++) {
            for (int place = 0; place < 6; place++) {
                x.letter('0' + (way + place * (way % 2 == 0 ? 1 : 3)) % 8);
            }
            x.fault();
            x.valley();
            x.way();
            x.blank();
        }
        for (int net = 0; net < 8; net++) {
            x.exchange(net, net == 3);
            x.tell(net, 7 - net, 1);
            x.link(net, 7 - net, 0);
            x.near(net, 7 - net, 1);
            x.net(net, 4);
            x.seen(net, 2);
            x.rank(net);
            x.contradicted(net);
            x.count(net);
        }
        x.top();
        x.digest();
        x.drop(0);
    }
}
