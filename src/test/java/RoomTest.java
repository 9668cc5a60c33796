import java.lang.management.ManagementFactory;

/** All calls of a run live in one room: an object is small, and no call makes anything. */
public final class RoomTest {
    private static final int MOST_BYTES_OF_AN_OBJECT = 40_000;
    /** What measuring itself may make. */
    private static final int SLACK = 4_000;

    private static final Checks c = new Checks();

    public static void main(String[] args) {
        RingShepherds x = new RingShepherds();
        calls(x);
        long before = allocated();
        RingShepherds y = new RingShepherds();
        long ofObject = allocated() - before;
        c.holds("an object has " + ofObject + " bytes", ofObject <= MOST_BYTES_OF_AN_OBJECT);
        before = allocated();
        calls(y);
        long ofCalls = allocated() - before;
        c.holds("calls made " + ofCalls + " bytes", ofCalls <= SLACK);
        wrongNumbers();
        c.end();
    }

    private static long allocated() {
        return ((com.sun.management.ThreadMXBean) ManagementFactory.getThreadMXBean()).getCurrentThreadAllocatedBytes();
    }

    private static void calls(RingShepherds x) {
        x.ring(24);
        for (int lane = 0; lane < 5; lane++) {
            for (int place = 0; place < 24; place++) x.lumps(lane, place, 999);
        }
        x.moon(1, 1, 0, 5);
        x.moon(3, 3, 7, 3);
        x.moon(4, 5, 9, 2);
        x.moon(2, 2, 1, 1);
        x.type(0x7269_6e67_2034_3b20L, 8);
        for (int i = 0; i < 15; i++) {
            x.loss(60);
            x.pushes(12);
            x.moved(i % 4, 60);
            x.road(i, 60, 1);
            x.taken(60, 0);
            x.game(6, 1);
            x.fee(i % 4, 60);
            x.where(i % 5, i, 60, 0);
            x.round();
            x.undo();
            x.round();
            x.image(i % 2);
            x.from(i % 2);
            x.digest();
        }
        x.read();
        x.clear();
    }

    /** Whatever the numbers, every call ends and answers. */
    private static void wrongNumbers() {
        int[] all = {Integer.MIN_VALUE, -101, -10, -2, -1, 0, 1, 4, 5, 12, 24, 61, 999, 1 << 30, Integer.MAX_VALUE};
        for (int a : all) {
            RingShepherds x = new RingShepherds();
            x.moon(0, 0, 0, 0);
            for (int b : all) {
                x.step(a, b);
                x.type(a, b);
                x.there(a, b);
                x.about(a, b);
                x.moved(a, b);
                x.told(a, b);
                x.taken(a, b);
                x.game(a, b);
                x.fee(a, b);
                x.lumps(a, b, a);
                x.road(a, b, a);
                x.moon(a, b, a, b);
                x.where(b, a, a, b);
            }
            x.loss(a);
            x.pushes(a);
            x.part(a);
            x.image(a);
            x.from(a);
            x.status(a);
            x.count(a);
            x.read();
            c.due("P is as it was", x.ring(a), a == 4 || a == 5 || a == 12 || a == 24 ? 12 : -2);
        }
    }
}
