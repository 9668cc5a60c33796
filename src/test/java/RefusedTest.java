import java.util.function.Supplier;

/**
 * Every bound of every number: the least and the greatest that are allowed, the first beyond each. Of each refused call
 * its answer, what STATUS counts, and that nothing else has changed: not the ring, what may be undone, images, the text.
 */
public final class RefusedTest {
    private static final int MIN = Rings.MIN, MAX = Rings.MAX;
    private static final int BAD = 0, NO = 1, FULL = 2, NOT_COUNTED = 3;

    private static final Checks c = new Checks();

    private interface Call {
        long on(RingShepherds x);
    }

    private interface CallBy {
        long on(RingShepherds x, int v);
    }

    public static void main(String[] args) {
        aRichRingIsRich();
        for (int p : new int[] {4, 6, 24}) {
            for (int moons = 1; moons <= 4; moons++) byPlacesAndMoons(p, moons);
        }
        aRing();
        rounds();
        whatComes();
        whatThereIs();
        withoutMoons();
        no();
        full();
        theFirstOf();
        onceByCall();
        notRefused();
        nothingIsChangedByThese();
        c.end();
    }

    /** The checks below are worth little if a rich ring has nothing that could be changed. */
    private static void aRichRingIsRich() {
        RingShepherds x = Rings.rich(6, 3);
        int[] count = {6, -1, 3, 8, -1, 6, 250};
        for (int what = 0; what < 7; what++) {
            if (count[what] >= 0) c.due("rich: count(" + what + ")", x.count(what), count[what]);
            else c.holds("rich: count(" + what + ")", x.count(what) > 0);
        }
        c.holds("rich: THE FRACTION", x.part(0) != 0);
        for (int what = 0; what < 3; what++) c.holds("rich: STATUS " + what, x.status(what) > 0);
        c.holds("rich: it can be read", x.read() == 4);
        c.due("rich: an IMAGE", x.from(0), 1);
        c.due("rich: with its past", x.count(5), 1);
        c.due("rich: no other IMAGE", x.from(1), -3);
        c.holds("rich: twice the same", Rings.everything(Rings.rich(6, 3)).equals(Rings.everything(Rings.rich(6, 3))));
    }

    /** A call on one of two twins: its answer, what it adds to STATUS, and that they are twins still. */
    private static void leavesAll(String name, Supplier<RingShepherds> ring, Call call, long answer, int why) {
        RingShepherds x = ring.get();
        RingShepherds twin = ring.get();
        c.due(name, call.on(x), answer);
        for (int what = 0; what < 3; what++) {
            c.due(name + ": STATUS " + what, x.status(what), twin.status(what) + (what == why ? 1 : 0));
        }
        c.holds(name + ": all stays", Rings.everything(x).equals(Rings.everything(twin)));
    }

    private static void isAllowed(String name, Supplier<RingShepherds> ring, Call call) {
        RingShepherds x = ring.get();
        RingShepherds twin = ring.get();
        call.on(x);
        for (int what = 0; what < 3; what++) c.due(name + " is allowed: STATUS", x.status(what), twin.status(what));
    }

    private static void bounds(String name, Supplier<RingShepherds> ring, CallBy call, int least, int most, long answer) {
        for (int v : new int[] {least - 1, most + 1, MIN, MAX}) {
            leavesAll(name + " " + v, ring, x -> call.on(x, v), answer, BAD);
        }
        for (int v : new int[] {least, most}) isAllowed(name + " " + v, ring, x -> call.on(x, v));
    }

    private static void bounds(String name, CallBy call, int least, int most, long answer) {
        bounds(name, () -> Rings.rich(6, 3), call, least, most, answer);
    }

    private static void byPlacesAndMoons(int p, int moons) {
        Supplier<RingShepherds> ring = () -> Rings.rich(p, moons);
        String of = " of " + p + " PLACES, " + moons + " MOONS:";
        bounds("lumps' place" + of, ring, (x, v) -> x.lumps(2, v, 5), 0, p - 1, -2);
        if (moons < 4) bounds("moon's place" + of, ring, (x, v) -> x.moon(1, 2, v, 3), 0, p - 1, -2);
        bounds("there's place" + of, ring, (x, v) -> x.there(2, v), -1, p - 1, -10);
        bounds("where's place" + of, ring, (x, v) -> x.where(2, v, 3, 1), 0, p - 1, -10);
        bounds("road's place" + of, ring, (x, v) -> x.road(v, 3, 0), 0, p - 1, -10);
        bounds("about's moon" + of, ring, (x, v) -> x.about(v, 2), 0, moons - 1, -2);
        bounds("moved's moon" + of, ring, (x, v) -> x.moved(v, 3), 0, moons - 1, -2);
        bounds("fee's moon" + of, ring, (x, v) -> x.fee(v, 3), 0, moons - 1, -2);
    }

    private static void aRing() {
        bounds("ring's p", (x, v) -> x.ring(v), 4, 24, -2);
        bounds("step's lane", (x, v) -> x.step(v, 8), 0, 4, -2);
        bounds("step's v", (x, v) -> x.step(2, v), 0, 9, -2);
        bounds("lumps' lane", (x, v) -> x.lumps(v, 2, 8), 0, 4, -2);
        bounds("lumps' n", (x, v) -> x.lumps(2, 2, v), 0, 999, -2);
        bounds("moon's kind", (x, v) -> x.moon(v, 1, 1, 1), 0, 4, -2);
        bounds("moon's edge", (x, v) -> x.moon(1, v, 1, 1), 0, 5, -2);
        bounds("moon's step", (x, v) -> x.moon(1, 1, 1, v), 0, 9, -2);
        bounds("type's n", () -> Rings.withText(100), (x, v) -> x.type(0x3b, v), 1, 8, -2);
        for (long v : new long[] {Long.MIN_VALUE, -1, 0, Long.MAX_VALUE}) {
            isAllowed("type's v " + v, () -> Rings.withText(100), x -> x.type(v, 8));
        }
    }

    private static void rounds() {
        bounds("there's lane", (x, v) -> x.there(v, 2), 0, 4, -10);
        bounds("there's lane with NONE", (x, v) -> x.there(v, -1), 0, 4, -10);
        bounds("about's what", (x, v) -> x.about(1, v), 0, 3, -2);
    }

    private static void whatComes() {
        bounds("where's lane", (x, v) -> x.where(v, 2, 3, 0), 0, 4, -10);
        bounds("where's k", (x, v) -> x.where(2, 2, v, 0), 0, 60, -10);
        bounds("where's what", (x, v) -> x.where(2, 2, 3, v), 0, 2, -10);
        bounds("loss's k", (x, v) -> x.loss(v), 0, 60, -2);
        bounds("pushes' k", (x, v) -> x.pushes(v), 0, 12, -2);
        bounds("moved's k", (x, v) -> x.moved(1, v), 0, 60, -2);
        bounds("road's k", (x, v) -> x.road(2, v, 0), 0, 60, -10);
        bounds("road's what", (x, v) -> x.road(2, 3, v), 0, 1, -10);
        bounds("told's lane", (x, v) -> x.told(v, 5), 0, 4, -2);
        bounds("told's n", (x, v) -> x.told(2, v), 0, 9999, -2);
        bounds("taken's k for how many", (x, v) -> x.taken(v, -1), 0, 60, -10);
        bounds("taken's k for the i-th", (x, v) -> x.taken(v, 0), 0, 60, -10);
        for (int i : new int[] {-2, -5, MIN}) leavesAll("taken's i " + i, () -> Rings.rich(6, 3), x -> x.taken(3, i), -10, BAD);
        bounds("game's n", (x, v) -> x.game(v, 0), 1, 6, -100000);
        bounds("game's n for the LANE", (x, v) -> x.game(v, 1), 1, 6, -100000);
        bounds("game's what", (x, v) -> x.game(3, v), 0, 1, -100000);
        bounds("fee's k", (x, v) -> x.fee(1, v), 0, 60, -2);
    }

    private static void whatThereIs() {
        bounds("part's what", (x, v) -> x.part(v), 0, 1, -100000);
        bounds("image's i", (x, v) -> x.image(v), 0, 1, -2);
        bounds("from's i", RefusedTest::withBothImages, (x, v) -> x.from(v), 0, 1, -2);
        bounds("status's what", (x, v) -> x.status(v), 0, 2, -1);
        bounds("count's what", (x, v) -> x.count(v), 0, 6, -2);
    }

    private static RingShepherds withBothImages() {
        RingShepherds x = Rings.rich(6, 3);
        x.undo();
        x.image(1);
        return x;
    }

    private static void withoutMoons() {
        Supplier<RingShepherds> ring = () -> Rings.rich(6, 0);
        leavesAll("about of none", ring, x -> x.about(0, 0), -2, BAD);
        leavesAll("moved of none", ring, x -> x.moved(0, 0), -2, BAD);
        leavesAll("fee of none", ring, x -> x.fee(0, 0), -2, BAD);
        leavesAll("about of a new object", RingShepherds::new, x -> x.about(0, 0), -2, BAD);
        leavesAll("moved of a new object", RingShepherds::new, x -> x.moved(0, 0), -2, BAD);
        leavesAll("fee of a new object", RingShepherds::new, x -> x.fee(0, 0), -2, BAD);
    }

    private static RingShepherds undone() {
        RingShepherds x = Rings.rich(6, 3);
        for (int i = 0; i < 6; i++) x.undo();
        return x;
    }

    private static void no() {
        leavesAll("undo of a new object", RingShepherds::new, x -> x.undo(), -3, NO);
        leavesAll("undo of none left", RefusedTest::undone, x -> x.undo(), -3, NO);
        isAllowed("undo of the last", () -> Rings.rich(6, 3), x -> x.undo());
        for (int i = 0; i < 2; i++) {
            int image = i;
            leavesAll("from of a new object", RingShepherds::new, x -> x.from(image), -3, NO);
        }
        leavesAll("from of the one that was not kept", () -> Rings.rich(6, 3), x -> x.from(1), -3, NO);
        isAllowed("from of the one that was kept", () -> Rings.rich(6, 3), x -> x.from(0));
    }

    private static void full() {
        leavesAll("a 5th MOON", () -> Rings.rich(6, 4), x -> x.moon(0, 0, 0, 0), -4, FULL);
        leavesAll("a 5th MOON like the others", () -> Rings.rich(24, 4), x -> x.moon(4, 5, 23, 9), -4, FULL);
        isAllowed("a 4th MOON", () -> Rings.rich(6, 3), x -> x.moon(0, 0, 0, 0));
        for (int n = 1; n <= 8; n++) {
            int bytes = n;
            leavesAll("type beyond 250 by 1 of " + n, () -> Rings.withText(251 - bytes), x -> x.type(0, bytes), -4, FULL);
            leavesAll("type behind 250 of " + n, () -> Rings.withText(250), x -> x.type(0, bytes), -4, FULL);
            isAllowed("type up to 250 of " + n, () -> Rings.withText(250 - bytes), x -> x.type(0, bytes));
        }
    }

    /** "the first of: BAD ..; NO ..; FULL". */
    private static void theFirstOf() {
        Supplier<RingShepherds> ring = () -> Rings.rich(6, 4);
        leavesAll("a 5th MOON of no KIND", ring, x -> x.moon(5, 0, 0, 0), -2, BAD);
        leavesAll("a 5th MOON at no EDGE", ring, x -> x.moon(0, 6, 0, 0), -2, BAD);
        leavesAll("a 5th MOON at no PLACE", ring, x -> x.moon(0, 0, 6, 0), -2, BAD);
        leavesAll("a 5th MOON of no STEP", ring, x -> x.moon(0, 0, 0, 10), -2, BAD);
        leavesAll("0 bytes behind 250", () -> Rings.withText(250), x -> x.type(0, 0), -2, BAD);
        leavesAll("9 bytes behind 250", () -> Rings.withText(250), x -> x.type(0, 9), -2, BAD);
        leavesAll("from of what is no IMAGE", RingShepherds::new, x -> x.from(2), -2, BAD);
        leavesAll("from of what is none, either", RingShepherds::new, x -> x.from(-1), -2, BAD);
    }

    /** A call with several numbers that are not as told is one refused call. */
    private static void onceByCall() {
        Supplier<RingShepherds> ring = () -> Rings.rich(6, 3);
        leavesAll("step of two", ring, x -> x.step(5, 10), -2, BAD);
        leavesAll("lumps of three", ring, x -> x.lumps(-1, 6, 1000), -2, BAD);
        leavesAll("moon of four", ring, x -> x.moon(5, 6, 6, 10), -2, BAD);
        leavesAll("there of two", ring, x -> x.there(5, 6), -10, BAD);
        leavesAll("about of two", ring, x -> x.about(3, 4), -2, BAD);
        leavesAll("where of four", ring, x -> x.where(5, 6, 61, 3), -10, BAD);
        leavesAll("moved of two", ring, x -> x.moved(3, 61), -2, BAD);
        leavesAll("road of three", ring, x -> x.road(6, 61, 2), -10, BAD);
        leavesAll("told of two", ring, x -> x.told(5, 10000), -2, BAD);
        leavesAll("taken of two", ring, x -> x.taken(61, -2), -10, BAD);
        leavesAll("game of two", ring, x -> x.game(7, 2), -100000, BAD);
        leavesAll("fee of two", ring, x -> x.fee(3, 61), -2, BAD);
    }

    /** Answers below 0 that are told otherwise than as BAD, NO or FULL. */
    private static void notRefused() {
        Supplier<RingShepherds> lost = () -> {
            RingShepherds x = Rings.still(4);
            x.lumps(4, 0, 3);
            x.lumps(0, 0, 3);
            x.moon(Rings.PLAIN, 4, 0, 0);
            x.moon(Rings.DRAWING, 0, 0, 0);
            x.moon(Rings.PLAIN, 1, 0, 0);
            return x;
        };
        leavesAll("where, LOST", lost, x -> x.where(4, 0, 1, 0), -1, NOT_COUNTED);
        leavesAll("road, none", lost, x -> x.road(0, 0, 0), -1, NOT_COUNTED);
        leavesAll("road, none, how long", lost, x -> x.road(0, 0, 1), -1, NOT_COUNTED);
        leavesAll("taken, not so many", lost, x -> x.taken(0, 0), -5, NOT_COUNTED);
        leavesAll("taken, far from so many", lost, x -> x.taken(0, MAX), -5, NOT_COUNTED);
        leavesAll("game, nothing", RingShepherds::new, x -> x.game(1, 1), -1, NOT_COUNTED);
        leavesAll("read of no TEXT", lost, x -> x.read(), -10, NOT_COUNTED);
        Supplier<RingShepherds> ends = () -> {
            RingShepherds x = Rings.rich(6, 3);
            x.clear();
            Checks.type(x, "ring 4");
            return x;
        };
        leavesAll("read of a TEXT that ends too early", ends, x -> x.read(), -16, NOT_COUNTED);
        Supplier<RingShepherds> caught = () -> {
            RingShepherds x = Rings.still(4);
            x.lumps(4, 0, 3);
            x.moon(Rings.STRONG, 3, 0, 0);
            x.moon(Rings.DRAWING, 5, 0, 0);
            return x;
        };
        leavesAll("pushes, it can not be", caught, x -> x.pushes(1), -1, NOT_COUNTED);
    }

    /** "(Nothing is changed by these.)"; a fee changes THE FRACTION alone, which is that fee already. */
    private static void nothingIsChangedByThese() {
        Call[] calls = {x -> x.where(4, 3, 60, 0), x -> x.where(2, 1, 60, 1), x -> x.where(0, 0, 60, 2), x -> x.loss(60),
            x -> x.pushes(12), x -> x.moved(0, 60), x -> x.moved(2, 60), x -> x.road(0, 60, 0), x -> x.road(5, 60, 1),
            x -> x.back(), x -> x.taken(60, -1), x -> x.taken(60, 0), x -> x.game(6, 0), x -> x.game(6, 1),
            x -> x.fee(0, 9), x -> x.there(4, 3), x -> x.there(4, -1), x -> x.about(1, 2), x -> x.part(0), x -> x.part(1),
            x -> x.status(0), x -> x.count(1), x -> x.digest()};
        for (int i = 0; i < calls.length; i++) {
            Call call = calls[i];
            long answer = call.on(Rings.rich(6, 3));
            leavesAll("looking on " + i, () -> Rings.rich(6, 3), call, answer, NOT_COUNTED);
        }
    }
}
