import java.util.ArrayList;
import java.util.List;

/** Rings to test with, and all that can be seen of one. */
final class Rings {
    static final int MIN = Integer.MIN_VALUE;
    static final int MAX = Integer.MAX_VALUE;
    static final int PLAIN = 0, WIDE = 1, DRAWING = 2, STRONG = 3, SLEEPY = 4;

    private static final String TEXT = "ring 9;step 2 8;lumps 1 4 77;moon 3 2 8 6;";
    private static final int[][] MOONS = {{WIDE, 4, 2, 1}, {SLEEPY, 1, 3, 2}, {DRAWING, 3, 0, 4}, {STRONG, 2, 1, 9}};

    private Rings() {
    }

    /** P places, and no lane goes on by itself. */
    static RingShepherds still(int p) {
        RingShepherds x = new RingShepherds();
        x.ring(p);
        for (int lane = 0; lane < 5; lane++) x.step(lane, 0);
        return x;
    }

    /**
     * There is something in all that a call might change: six rounds to undo, image 0 kept and image 1 not, a text that
     * can be read, each STATUS. The last moon comes behind the rounds. Two calls of it answer the same ring.
     */
    static RingShepherds rich(int p, int moons) {
        RingShepherds x = new RingShepherds();
        x.ring(p);
        x.step(0, 7);
        x.step(3, 1);
        for (int lane = 0; lane < 5; lane++) {
            for (int place = lane % 2; place < 4; place += 2) x.lumps(lane, place, 10 * lane + place + 1);
            x.told(lane, 50 + lane);
        }
        for (int i = 0; i < moons - 1; i++) comes(x, i);
        x.round();
        x.image(0);
        x.lumps(2, 1, 8);
        for (int i = 0; i < 7; i++) x.round();
        if (moons > 0) comes(x, moons - 1);
        x.lumps(4, 3, 9);
        x.lumps(0, 0, 4);
        Checks.type(x, TEXT);
        x.fee(0, 9);
        x.ring(99);
        x.from(1);
        for (int i = 0; i < 32; i++) x.type(0x2020_2020_2020_2020L, 8);
        return x;
    }

    private static void comes(RingShepherds x, int i) {
        x.moon(MOONS[i][0], MOONS[i][1], MOONS[i][2], MOONS[i][3]);
    }

    /** A rich ring with a text of so many bytes, from 42 on: blanks end it. */
    static RingShepherds withText(int bytes) {
        RingShepherds x = rich(6, 3);
        x.clear();
        Checks.type(x, TEXT);
        for (int i = TEXT.length(); i < bytes; i++) x.type(32, 1);
        return x;
    }

    /** All that is there but STATUS: the ring, its past, the images with theirs, the text. It uses the object up. */
    static List<Long> everything(RingShepherds x) {
        List<Long> all = new ArrayList<>();
        addWithPast(all, x);
        for (int i = 0; i < 2; i++) {
            all.add((long) x.from(i));
            addWithPast(all, x);
        }
        all.add((long) x.read());
        addWithPast(all, x);
        return all;
    }

    /** One undo more than there may be, so that a past which has no end is seen, too. */
    private static void addWithPast(List<Long> all, RingShepherds x) {
        all.add(x.digest());
        for (int i = 0; i <= 6 && x.undo() == 1; i++) all.add(x.digest());
    }

    /** What digest answers, from what the other calls tell. It changes nothing. */
    static long digestByCalls(RingShepherds x) {
        long h = 821;
        for (int what = 0; what <= 6; what++) h = 31 * h + x.count(what);
        for (int lane = 0; lane < 5; lane++) {
            int step = x.step(lane, 0);
            int told = x.told(lane, 0);
            x.step(lane, step);
            x.told(lane, told);
            h = 31 * h + step;
            h = 31 * h + told;
            for (int place = 0; place < x.count(0); place++) h = 31 * h + x.there(lane, place);
        }
        for (int moon = 0; moon < x.count(2); moon++) {
            for (int what = 0; what < 4; what++) h = 31 * h + x.about(moon, what);
        }
        return 31 * (31 * h + x.part(0)) + x.part(1);
    }
}
