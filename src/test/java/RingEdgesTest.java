/** The sentences of "Terms" on THE RING, its MOONS and its ROUNDS that name a bound, a wrap-around or what is LOST. */
public final class RingEdgesTest {
    private static final int PLAIN = Rings.PLAIN, WIDE = Rings.WIDE, DRAWING = Rings.DRAWING, STRONG = Rings.STRONG,
        SLEEPY = Rings.SLEEPY;

    private static final Checks c = new Checks();

    public static void main(String[] args) {
        placesAtFirst();
        lanesAtFirst();
        placesOfTheLeastAndTheGreatest();
        lumpsOfNoneAndOfMost();
        stepsOfNoneAndOfMost();
        lumpsGoRound();
        moonsGoRound();
        theRoundCounts();
        moonsAsTheyCome();
        edgesThatAreNotThere();
        beyondTheInnermost();
        beyondTheOutermost();
        upToTheLastLane();
        lostForGood();
        straysAddUp();
        besideAcrossTheEnd();
        eachPlaceOnce();
        bothAtOnce();
        asItLiesThen();
        sleepyByTheRound();
        underTheOneTold();
        moreThanMayBeTold();
        thereInAll();
        as512Calls();
        c.end();
    }

    private static void column(String what, RingShepherds x, int place, int... due) {
        for (int lane = 0; lane < 5; lane++) c.due(what + ", LANE " + lane, x.there(lane, place), due[lane]);
    }

    /** 1, 2, 4, 8, 16 lumps in lanes 0 to 4 at one place: a sum tells which are in it. */
    private static RingShepherds columnAt(int p, int place) {
        RingShepherds x = Rings.still(p);
        for (int lane = 0; lane < 5; lane++) x.lumps(lane, place, 1 << lane);
        return x;
    }

    private static void placesAtFirst() {
        c.by("P PLACES (4 .. 24; 12 at first)");
        RingShepherds x = new RingShepherds();
        c.due("PLACES", x.count(0), 12);
        c.due("the last PLACE", x.there(0, 11), 0);
        c.due("none behind it", x.there(0, 12), -10);
    }

    private static void lanesAtFirst() {
        c.by("STEP of a LANE (0 .. 9; 5, 4, 3, 2, 1 at first); LUMPS (0 at first)");
        RingShepherds x = new RingShepherds();
        for (int lane = 0; lane < 5; lane++) {
            c.due("LUMPS in LANE " + lane, x.there(lane, -1), 0);
            x.lumps(lane, 0, 1);
        }
        x.round();
        for (int lane = 0; lane < 5; lane++) c.due("LANE " + lane + " goes on", x.there(lane, 5 - lane), 1);
        c.due("and is told so", x.step(0, 5), 5);
        c.due("the outermost, too", x.step(4, 1), 1);
    }

    private static void placesOfTheLeastAndTheGreatest() {
        c.by("P PLACES (4 .. 24)");
        RingShepherds x = new RingShepherds();
        for (int p = 4; p <= 24; p++) {
            c.due("what P was", x.ring(p), p == 4 ? 12 : p - 1);
            c.due("what P is", x.count(0), p);
            c.due("LUMPS at the last PLACE", x.lumps(4, p - 1, 7), 0);
            c.due("are there", x.there(4, p - 1), 7);
            c.due("a MOON at the last PLACE", x.moon(PLAIN, 0, p - 1, 0), 0);
            c.due("a ROAD there", x.road(p - 1, 60, 0), 1);
            c.due("no LUMPS behind it", x.lumps(4, p, 7), -2);
            c.due("no MOON behind it", x.moon(PLAIN, 0, p, 0), -2);
        }
        c.due("3 are too few", x.ring(3), -2);
        c.due("25 are too many", x.ring(25), -2);
        c.due("24 stay", x.count(0), 24);
    }

    private static void lumpsOfNoneAndOfMost() {
        c.by("LUMPS: how many (0 .. 999) there are in each LANE and PLACE");
        RingShepherds x = Rings.still(4);
        for (int lane = 0; lane < 5; lane++) {
            for (int place = 0; place < 4; place++) c.due("999", x.lumps(lane, place, 999), 0);
        }
        c.due("of all", x.count(1), 20 * 999);
        c.due("of a LANE", x.there(3, -1), 4 * 999);
        c.due("1000 are too many", x.lumps(0, 0, 1000), -2);
        c.due("999 stay", x.lumps(0, 0, 0), 999);
        c.due("0 is none", x.there(0, 0), 0);
        c.due("-1 are too few", x.lumps(0, 0, -1), -2);
        c.due("0 stays", x.lumps(0, 0, 1), 0);
    }

    private static void stepsOfNoneAndOfMost() {
        c.by("STEP of a LANE (0 .. 9)");
        for (int lane = 0; lane < 5; lane++) {
            RingShepherds x = Rings.still(12);
            x.lumps(lane, 2, 6);
            x.round();
            c.due("0: it stays", x.there(lane, 2), 6);
            c.due("what it was", x.step(lane, 9), 0);
            x.round();
            c.due("9 PLACES on", x.there(lane, 11), 6);
            c.due("10 are too many", x.step(lane, 10), -2);
            c.due("-1 are too few", x.step(lane, -1), -2);
            c.due("9 stays", x.step(lane, 0), 9);
        }
    }

    /** Where one is that goes on by so many, counted one by one. */
    private static int on(int p, int place, int by) {
        int at = place;
        for (int i = 0; i < by; i++) at = at == p - 1 ? 0 : at + 1;
        return at;
    }

    private static void lumpsGoRound() {
        c.by("each LUMP in it goes on by so many PLACES (rising, P is 0 again)");
        for (int p = 4; p <= 24; p++) {
            for (int step = 0; step <= 9; step++) {
                RingShepherds x = Rings.still(p);
                int lane = step % 5;
                x.step(lane, step);
                for (int place = 0; place < p; place++) x.lumps(lane, place, place + 1);
                x.round();
                for (int place = 0; place < p; place++) {
                    c.due(p + " PLACES, " + place + " by " + step, x.there(lane, on(p, place, step)), place + 1);
                    c.due("WHERE tells it", x.where(lane, place, 1, 1), on(p, place, step));
                }
                x.round();
                c.due("and once more", x.there(lane, on(p, p - 1, 2 * step)), p);
            }
        }
    }

    private static void moonsGoRound() {
        c.by("MOONS go on: a PLACE, a STEP (0 .. 9)");
        for (int p = 4; p <= 24; p++) {
            for (int step = 0; step <= 9; step++) {
                RingShepherds x = Rings.still(p);
                x.moon(PLAIN, 0, p - 1, step);
                x.moon(PLAIN, 0, 0, step);
                for (int i = 1; i <= 3; i++) {
                    x.round();
                    c.due(p + " PLACES, the last by " + step, x.about(0, 2), on(p, p - 1, i * step));
                    c.due(p + " PLACES, the first by " + step, x.about(1, 2), on(p, 0, i * step));
                }
                c.due("her STEP stays", x.about(0, 3), step);
            }
        }
        // the MOON that has come round is by the LUMPS there, and by no others
        RingShepherds x = Rings.still(5);
        x.lumps(4, 0, 3);
        x.lumps(4, 4, 4);
        x.moon(PLAIN, 4, 4, 1);
        c.due("she is at PLACE 0 again", x.round(), 3);
        c.due("not at the last one", x.there(4, 4), 4);
    }

    private static void theRoundCounts() {
        c.by("THE ROUND: how many have been (0 at first)");
        RingShepherds x = new RingShepherds();
        c.due("at first", x.count(3), 0);
        for (int i = 1; i <= 9; i++) {
            c.due("in an empty RING none is LOST", x.round(), 0);
            c.due("one more", x.count(3), i);
        }
        x.ring(12);
        c.due("at first again", x.count(3), 0);
    }

    private static void moonsAsTheyCome() {
        c.by("MOONS 0 .. 3, as they come");
        RingShepherds x = new RingShepherds();
        for (int i = 0; i < 4; i++) {
            c.due("so far", x.count(2), i);
            c.due("her number", x.moon(4 - i, 5 - i, 11 - i, 9 - i), i);
            c.due("none behind her", x.about(i + 1, 0), -2);
        }
        c.due("a 5th", x.moon(0, 0, 0, 0), -4);
        c.due("four", x.count(2), 4);
        for (int i = 0; i < 4; i++) {
            int[] due = {4 - i, 5 - i, 11 - i, 9 - i};
            for (int what = 0; what < 4; what++) c.due("MOON " + i + ", " + what, x.about(i, what), due[what]);
        }
        x.ring(12);
        c.due("the first again", x.moon(0, 0, 0, 0), 0);
    }

    private static void edgesThatAreNotThere() {
        c.by("EDGE e is between LANE e less 1 and LANE e; some are not there");
        int[][] plain = {{0, 3, 4, 8, 16}, {0, 0, 6, 8, 16}, {3, 0, 0, 12, 16}, {1, 6, 0, 0, 24}, {1, 2, 12, 0, 0},
            {1, 2, 4, 24, 0}};
        int[] plainLost = {0, 1, 0, 0, 16, 0};
        int[][] drawing = {{0, 2, 4, 8, 16}, {2, 1, 4, 8, 16}, {1, 4, 2, 8, 16}, {1, 2, 8, 4, 16}, {1, 2, 4, 16, 8},
            {1, 2, 4, 8, 0}};
        int[] drawingLost = {1, 0, 0, 0, 0, 16};
        int[][] strong = {{0, 2, 5, 8, 16}, {0, 0, 4, 10, 16}, {1, 0, 0, 8, 20}, {5, 2, 0, 0, 16}, {1, 10, 4, 0, 0},
            {1, 2, 20, 8, 0}};
        int[] strongLost = {0, 1, 2, 8, 16, 0};
        for (int edge = 0; edge <= 5; edge++) {
            atEdge("PLAIN", PLAIN, edge, plain[edge], plainLost[edge]);
            atEdge("WIDE", WIDE, edge, plain[edge], plainLost[edge]);
            atEdge("SLEEPY", SLEEPY, edge, plain[edge], plainLost[edge]);
            atEdge("DRAWING", DRAWING, edge, drawing[edge], drawingLost[edge]);
            atEdge("STRONG", STRONG, edge, strong[edge], strongLost[edge]);
        }
    }

    private static void atEdge(String kind, int number, int edge, int[] due, int lost) {
        RingShepherds x = columnAt(4, 0);
        x.moon(number, edge, 0, 0);
        String what = kind + " at EDGE " + edge;
        c.due(what + ": LOSS", x.loss(1), lost);
        for (int lane = 0; lane < 5; lane++) {
            int end = x.where(lane, 0, 1, 0);
            c.holds(what + ": WHERE of LANE " + lane, end < 0 ? (lost & 1 << lane) != 0 : (due[end] & 1 << lane) != 0);
        }
        c.due(what + ": LOST", x.round(), lost);
        column(what, x, 0, due);
        c.due(what + ": STRAYS", x.count(4), lost);
    }

    private static void lostFrom(int kind, int edge, int lane) {
        RingShepherds x = columnAt(4, 3);
        x.moon(kind, edge, 3, 0);
        String what = "KIND " + kind + ", EDGE " + edge + ", LANE " + lane;
        c.due(what + ": WHERE", x.where(lane, 3, 1, 0), -1);
        c.due(what + ": its PLACE", x.where(lane, 3, 1, 1), 3);
        c.due(what + ": moved", x.where(lane, 3, 1, 2), 1);
        c.due(what + ": LOSS", x.loss(1), 1 << lane);
        c.due(what + ": by a ROUND", x.round(), 1 << lane);
        c.due(what + ": the others stay", x.count(1), 31 - (1 << lane));
    }

    private static void beyondTheInnermost() {
        c.by("Beyond LANE 0 .. a LUMP is LOST");
        lostFrom(PLAIN, 1, 0);
        lostFrom(WIDE, 1, 0);
        lostFrom(SLEEPY, 1, 0);
        lostFrom(DRAWING, 0, 0);
        lostFrom(STRONG, 1, 0);
        lostFrom(STRONG, 2, 1);
    }

    private static void beyondTheOutermost() {
        c.by("Beyond LANE .. 4 a LUMP is LOST");
        lostFrom(PLAIN, 4, 4);
        lostFrom(WIDE, 4, 4);
        lostFrom(SLEEPY, 4, 4);
        lostFrom(DRAWING, 5, 4);
        lostFrom(STRONG, 4, 4);
        lostFrom(STRONG, 3, 3);
    }

    private static void upToTheLastLane() {
        c.by("LANES 0 .. 4: what comes to LANE 0 or 4 itself is not LOST");
        int[][] cases = {{PLAIN, 2, 1, 0}, {PLAIN, 3, 3, 4}, {DRAWING, 1, 1, 0}, {DRAWING, 4, 3, 4}, {STRONG, 3, 2, 0},
            {STRONG, 2, 2, 4}};
        for (int[] each : cases) {
            RingShepherds x = Rings.still(4);
            x.lumps(each[2], 1, 6);
            x.moon(each[0], each[1], 1, 0);
            c.due("LOSS", x.loss(1), 0);
            c.due("WHERE", x.where(each[2], 1, 1, 0), each[3]);
            c.due("none is LOST", x.round(), 0);
            c.due("it is there", x.there(each[3], 1), 6);
        }
    }

    private static void lostForGood() {
        c.by("a LUMP is LOST: no MOON behind moves it, none draws it back");
        int[][] cases = {{4, 4, 5}, {0, 1, 0}};
        for (int[] each : cases) {
            RingShepherds x = Rings.still(4);
            x.lumps(each[0], 2, 6);
            x.moon(PLAIN, each[1], 2, 0);
            x.moon(DRAWING, each[2], 2, 0);
            c.due("moved once", x.where(each[0], 2, 60, 2), 1);
            c.due("LOSS", x.loss(60), 6);
            c.due("LOST", x.round(), 6);
            c.due("none is left", x.count(1), 0);
            c.due("LOST but once", x.round(), 0);
            c.due("STRAYS", x.count(4), 6);
        }
    }

    private static void straysAddUp() {
        c.by("STRAYS: how many so far; 0 at first");
        RingShepherds x = Rings.still(4);
        c.due("at first", x.count(4), 0);
        x.moon(PLAIN, 4, 0, 1);
        for (int place = 0; place < 4; place++) x.lumps(4, place, 10 + place);
        int[] lost = {11, 12, 13, 10, 0};
        int sum = 0;
        for (int each : lost) {
            c.due("by this ROUND alone", x.round(), each);
            sum += each;
            c.due("so far", x.count(4), sum);
        }
        c.due("LOSS counts none of them", x.loss(60), 0);
        x.ring(4);
        c.due("at first again", x.count(4), 0);
    }

    private static void besideAcrossTheEnd() {
        c.by("at the PLACES beside hers, too");
        for (int kind : new int[] {WIDE, STRONG}) {
            for (int p = 4; p <= 24; p++) {
                for (int place = 0; place < p; place++) besideOf(kind, p, place);
            }
        }
    }

    private static void besideOf(int kind, int p, int place) {
        RingShepherds x = Rings.still(p);
        for (int at = 0; at < p; at++) x.lumps(4, at, 1 + at);
        x.moon(kind, 4, place, 0);
        int next = on(p, place, 1);
        int last = on(p, place, p - 1);
        for (int at = 0; at < p; at++) {
            boolean isBy = at == place || at == next || at == last;
            c.due("WHERE at " + at + " of " + p, x.where(4, at, 1, 0), isBy ? -1 : 4);
        }
        c.due("LOST by her", x.round(), 3 + place + next + last);
        for (int at = 0; at < p; at++) {
            boolean isBy = at == place || at == next || at == last;
            c.due("at " + at + " of " + p, x.there(4, at), isBy ? 0 : 1 + at);
        }
    }

    private static void eachPlaceOnce() {
        c.by("(each PLACE once)");
        RingShepherds x = Rings.still(4);
        for (int place = 0; place < 4; place++) x.lumps(2, place, 1 + place);
        x.moon(WIDE, 2, 0, 0);
        for (int place : new int[] {3, 0, 1}) c.due("moved once", x.where(2, place, 1, 2), 1);
        x.round();
        for (int place : new int[] {3, 0, 1}) c.due("out by one LANE", x.there(3, place), 1 + place);
        c.due("PLACE 2 is not beside 0", x.there(2, 2), 3);
    }

    private static void bothAtOnce() {
        c.by("those of the outer LANE go out by 1, those of the inner one in by 1 (both at once)");
        for (int edge = 1; edge <= 4; edge++) {
            RingShepherds x = Rings.still(4);
            x.lumps(edge, 0, 5);
            x.lumps(edge - 1, 0, 7);
            x.moon(DRAWING, edge, 0, 0);
            x.round();
            c.due("DRAWING: the outer ones are inside", x.there(edge - 1, 0), 5);
            c.due("DRAWING: the inner ones are outside", x.there(edge, 0), 7);
            x.round();
            c.due("and back", x.there(edge, 0), 5);
            c.due("none is LOST", x.count(4), 0);
        }
    }

    private static void asItLiesThen() {
        c.by("then each MOON, in order; each LUMP is moved as it lies then");
        // out by MOON 0 from LANE 1 to 2, by MOON 1 to 3, by MOON 2 to 4, by MOON 3 beyond
        RingShepherds x = Rings.still(4);
        x.lumps(1, 0, 6);
        for (int edge = 1; edge <= 4; edge++) x.moon(PLAIN, edge, 0, 0);
        c.due("moved by four", x.where(1, 0, 1, 2), 4);
        c.due("beyond LANE 4", x.where(1, 0, 1, 0), -1);
        c.due("LOST", x.round(), 6);
        // the other order: in by the MOON at EDGE 2, beyond LANE 0 by her at EDGE 1
        x = Rings.still(4);
        x.lumps(1, 0, 6);
        for (int edge = 4; edge >= 1; edge--) x.moon(PLAIN, edge, 0, 0);
        c.due("moved by two", x.where(1, 0, 1, 2), 2);
        c.due("beyond LANE 0", x.where(1, 0, 1, 0), -1);
        c.due("LOST, too", x.round(), 6);
        // MOONS go on all together ahead of the first that pushes
        x = Rings.still(6);
        x.lumps(2, 1, 4);
        x.moon(PLAIN, 2, 0, 1);
        x.moon(PLAIN, 3, 4, 3);
        x.round();
        c.due("both are by it at PLACE 1", x.there(4, 1), 4);
        // LUMPS go on by the STEP of the LANE that they were in
        x = Rings.still(6);
        x.step(3, 2);
        x.step(4, 5);
        x.lumps(3, 5, 4);
        x.moon(PLAIN, 3, 1, 0);
        x.round();
        c.due("by LANE 3's STEP, then out", x.there(4, 1), 4);
        x.round();
        c.due("by LANE 4's STEP next", x.there(4, 0), 4);
    }

    private static void sleepyByTheRound() {
        c.by("SLEEPY: nothing in ROUNDS that 3 divides (the first ROUND is 1)");
        RingShepherds x = Rings.still(4);
        x.moon(SLEEPY, 4, 0, 0);
        for (int round = 1; round <= 12; round++) {
            x.lumps(4, 0, 5);
            x.lumps(4, 1, 3);
            int due = round % 3 == 0 ? 0 : 5;
            c.due("LOSS ahead of ROUND " + round, x.loss(1), due);
            c.due("WHERE ahead of ROUND " + round, x.where(4, 0, 1, 0), due == 0 ? 4 : -1);
            c.due("PUSHES ahead of ROUND " + round, x.pushes(1), due);
            c.due("ROUND " + round, x.round(), due);
        }
        // ROUND 12, in which she slept, undone and run again
        x.undo();
        x.lumps(4, 0, 5);
        c.due("the ROUND that was undone is 12 again", x.round(), 0);
        c.due("13 is not", x.round(), 5);
        x.ring(4);
        x.moon(SLEEPY, 0, 0, 0);
        x.step(0, 0);
        x.lumps(0, 0, 5);
        x.round();
        c.due("the first of a new RING is 1", x.there(1, 0), 5);
    }

    private static void underTheOneTold() {
        c.by("KINDS, each under the one told");
        int[] beside = {0, 1, 0, 1, 0};
        int[] lanes = {3, 3, 1, 4, 3};
        int[] inThird = {3, 3, 1, 4, 2};
        for (int kind = 0; kind <= 4; kind++) {
            RingShepherds x = Rings.still(5);
            x.moon(kind, 2, 0, 0);
            c.due("KIND " + kind + ": out", x.where(2, 0, 1, 0), lanes[kind]);
            c.due("KIND " + kind + ": moved", x.where(2, 0, 1, 2), 1);
            c.due("KIND " + kind + ": beside her", x.where(2, 1, 1, 2), beside[kind]);
            c.due("KIND " + kind + ": beside her, across the end", x.where(2, 4, 1, 2), beside[kind]);
            c.due("KIND " + kind + ": no further on", x.where(2, 2, 1, 2), 0);
            c.due("KIND " + kind + ": no further back", x.where(2, 3, 1, 2), 0);
            x.round();
            x.round();
            c.due("KIND " + kind + ": in ROUND 3", x.where(2, 0, 1, 0), inThird[kind]);
        }
    }

    private static void moreThanMayBeTold() {
        c.by("LUMPS (0 .. 999) as told; MOONS may bring more together");
        RingShepherds x = Rings.still(4);
        x.lumps(2, 0, 999);
        x.lumps(3, 0, 999);
        x.moon(PLAIN, 2, 0, 0);
        x.round();
        c.due("1998", x.there(3, 0), 1998);
        c.due("what was there", x.lumps(3, 0, 999), 1998);
        c.due("none is LOST by it", x.count(4), 0);
    }

    private static void thereInAll() {
        c.by("LUMPS in a LANE at a PLACE (NONE: in all). BAD: -10");
        RingShepherds x = Rings.still(24);
        x.step(1, 5);
        for (int lane = 0; lane < 5; lane++) {
            c.due("in an empty LANE", x.there(lane, RingShepherds.NONE), 0);
            c.due("at its first PLACE", x.there(lane, 0), 0);
            c.due("at its last PLACE", x.there(lane, 23), 0);
        }
        for (int place = 0; place < 24; place++) x.lumps(1, place, 999);
        c.due("in a full LANE", x.there(1, -1), 24 * 999);
        x.lumps(1, 0, 1);
        x.lumps(1, 23, 0);
        x.round();
        c.due("in all, behind a ROUND", x.there(1, -1), 22 * 999 + 1);
        c.due("the one", x.there(1, 5), 1);
        c.due("none", x.there(1, 4), 0);
        c.due("in another LANE", x.there(0, -1), 0);
        c.due("below NONE", x.there(1, -2), -10);
        c.due("NONE is no LANE", x.there(-1, 0), -10);
        c.due("nor is it with all PLACES", x.there(-1, -1), -10);
        c.due("behind the last PLACE", x.there(1, 24), -10);
        c.due("behind the last LANE", x.there(5, -1), -10);
        c.due("each is BAD", x.status(0), 5);
    }

    private static void as512Calls() {
        c.by("An object is used for at most 512 calls");
        RingShepherds x = new RingShepherds();
        x.lumps(4, 0, 999);
        for (int i = 1; i <= 509; i++) x.round();
        c.due("the 511th call", x.there(4, 509 % 12), 999);
        c.due("the 512th call", x.count(3), 509);
        // as many as can be LOST: 999 come back to the MOON ahead of each ROUND
        RingShepherds y = new RingShepherds();
        y.moon(PLAIN, 4, 11, 1);
        y.step(4, 0);
        for (int i = 0; i < 254; i++) {
            y.lumps(4, i % 12, 999);
            c.due("LOST", y.round(), 999);
        }
        c.due("STRAYS", y.count(4), 254 * 999);
        c.due("none is left", y.count(1), 0);
    }
}
