/** Each promise of the document by itself; the answers were worked out by hand. */
public final class PromisesTest {
    private static final int MIN = Rings.MIN, MAX = Rings.MAX;
    private static final int PLAIN = Rings.PLAIN, WIDE = Rings.WIDE, DRAWING = Rings.DRAWING, STRONG = Rings.STRONG,
        SLEEPY = Rings.SLEEPY;

    private static final Checks c = new Checks();

    public static void main(String[] args) {
        aNewObject();
        ring();
        step();
        lumps();
        moon();
        typeAndClear();
        read();
        readFaults();
        roundGoesOn();
        roundByKinds();
        roundInOrder();
        undo();
        thereAndAbout();
        where();
        loss();
        pushes();
        moved();
        road();
        back();
        toldAndTaken();
        game();
        fee();
        part();
        images();
        status();
        statusByCall();
        count();
        digest();
        nothingIsChanged();
        c.end();
    }

    private static void aNewObject() {
        RingShepherds x = new RingShepherds();
        c.asAtFirst("new:", x, 12);
        c.due("new: bytes", x.count(6), 0);
        c.due("new: above", x.part(0), 0);
        c.due("new: below", x.part(1), 1);
        for (int what = 0; what < 3; what++) c.due("new: status", x.status(what), 0);
        c.due("new: undo", x.undo(), -3);
        c.due("new: from(0)", x.from(0), -3);
        c.due("new: from(1)", x.from(1), -3);
        c.due("new: moon", x.about(0, 0), -2);
        c.due("NONE", RingShepherds.NONE, -1);
        c.due("BAD", RingShepherds.BAD, -2);
        c.due("NO", RingShepherds.NO, -3);
        c.due("FULL", RingShepherds.FULL, -4);
        RingShepherds y = new RingShepherds();
        x.lumps(0, 0, 5);
        c.due("objects are apart", y.there(0, 0), 0);
    }

    private static void ring() {
        RingShepherds x = new RingShepherds();
        for (int p : new int[] {3, 25, 0, -4, MIN, MAX}) c.due("ring(" + p + ")", x.ring(p), -2);
        c.due("ring(24)", x.ring(24), 12);
        c.due("ring(4)", x.ring(4), 24);
        x.lumps(4, 0, 7);
        x.moon(PLAIN, 4, 1, 0);
        x.step(0, 9);
        x.told(2, 77);
        Checks.type(x, "ring 5;");
        x.image(0);
        c.due("all LUMPS go", x.round(), 7);
        x.image(1);
        x.from(0);
        x.fee(0, 1);
        x.round();
        c.due("a refused ring changes nothing", x.ring(25), -2);
        c.due("STRAYS stay", x.count(4), 7);
        c.due("ring(24) again", x.ring(24), 4);
        c.asAtFirst("ring:", x, 24);
        c.due("nothing to undo", x.undo(), -3);
        c.due("THE TEXT stays", x.count(6), 7);
        c.due("THE FRACTION stays", x.part(0), 7);
        c.due("STATUS stays", x.status(0), 7);
        c.due("an IMAGE stays", x.from(0), 1);
        c.due("as it was", x.there(4, 0), 7);
        c.due("with its P", x.count(0), 4);
        c.due("and the other one", x.from(1), 1);
        c.due("behind its ROUND", x.count(3), 1);
    }

    private static void step() {
        RingShepherds x = new RingShepherds();
        c.due("step(0, 9)", x.step(0, 9), 5);
        c.due("step(0, 0)", x.step(0, 0), 9);
        c.due("step(4, 3)", x.step(4, 3), 1);
        for (int lane : new int[] {-1, 5, MIN, MAX}) c.due("step(" + lane + ", 0)", x.step(lane, 0), -2);
        for (int v : new int[] {-1, 10, MIN, MAX}) c.due("step(0, " + v + ")", x.step(0, v), -2);
        c.due("it stays", x.step(0, 1), 0);
        x.lumps(4, 11, 2);
        x.round();
        c.due("it goes on by it", x.there(4, 2), 2);
    }

    private static void lumps() {
        RingShepherds x = new RingShepherds();
        c.due("lumps(0, 0, 999)", x.lumps(0, 0, 999), 0);
        c.due("lumps(0, 0, 1)", x.lumps(0, 0, 1), 999);
        c.due("lumps(4, 11, 3)", x.lumps(4, 11, 3), 0);
        c.due("lumps(4, 11, 0)", x.lumps(4, 11, 0), 3);
        for (int lane : new int[] {-1, 5, MIN, MAX}) c.due("lumps by lane " + lane, x.lumps(lane, 0, 0), -2);
        for (int place : new int[] {-1, 12, 23, MIN, MAX}) c.due("lumps by place " + place, x.lumps(0, place, 0), -2);
        for (int n : new int[] {-1, 1000, MIN, MAX}) c.due("lumps by n " + n, x.lumps(0, 0, n), -2);
        c.due("one is left", x.count(1), 1);
        x.round();
        c.due("where it is now", x.lumps(0, 5, 2), 1);
        c.due("and told there", x.there(0, 5), 2);
    }

    private static void moon() {
        RingShepherds x = new RingShepherds();
        for (int v : new int[] {-1, 5, MIN, MAX}) c.due("kind " + v, x.moon(v, 0, 0, 0), -2);
        for (int v : new int[] {-1, 6, MIN, MAX}) c.due("edge " + v, x.moon(0, v, 0, 0), -2);
        for (int v : new int[] {-1, 12, MIN, MAX}) c.due("place " + v, x.moon(0, 0, v, 0), -2);
        for (int v : new int[] {-1, 10, MIN, MAX}) c.due("step " + v, x.moon(0, 0, 0, v), -2);
        c.due("moon 0", x.moon(4, 5, 11, 9), 0);
        c.due("moon 1", x.moon(0, 0, 0, 0), 1);
        c.due("moon 2", x.moon(3, 2, 1, 4), 2);
        c.due("moon 3", x.moon(1, 1, 1, 1), 3);
        c.due("a 5th", x.moon(1, 1, 1, 1), -4);
        c.due("BAD comes first", x.moon(5, 1, 1, 1), -2);
        c.due("four", x.count(2), 4);
        c.due("FULL once", x.status(2), 1);
    }

    private static void typeAndClear() {
        RingShepherds x = new RingShepherds();
        c.due("clear of none", x.clear(), 0);
        for (int n : new int[] {0, 9, -1, MIN, MAX}) c.due("type(0, " + n + ")", x.type(0, n), -2);
        c.due("one byte", x.type(-1L, 1), 1);
        c.due("eight bytes", x.type(0x7269_6e67_2034_3b20L, 8), 9);
        c.due("clear", x.clear(), 9);
        c.due("empty", x.count(6), 0);
        // only the lowest bytes count, the highest of them first
        c.due("of more bytes", x.type(0x5a5a_7269_6e67_2034L, 6), 6);
        c.due("the rest", x.type(0x5a5a_5a5a_5a5a_5a3bL, 1), 7);
        c.due("it is ring 4;", x.read(), 1);
        c.due("P", x.count(0), 4);
        x.clear();
        for (int i = 1; i <= 31; i++) c.due("type", x.type(0, 8), 8 * i);
        c.due("3 too many", x.type(0, 3), -4);
        c.due("BAD comes first", x.type(0, 9), -2);
        c.due("the last 2", x.type(0, 2), 250);
        c.due("1 too many", x.type(0, 1), -4);
        c.due("250 bytes", x.count(6), 250);
        c.due("FULL twice", x.status(2), 2);
        c.due("clear of all", x.clear(), 250);
        c.due("there is room again", x.type(0, 1), 1);
    }

    private static void read() {
        RingShepherds x = new RingShepherds();
        c.due("the least", Checks.read(x, "ring 4;"), 1);
        c.due("P 4", x.count(0), 4);
        c.due("no blanks", Checks.read(x, "ring24;step0 9;lumps4 23 999;moon4 5 23 9;"), 4);
        c.due("P 24", x.count(0), 24);
        c.due("STEP", x.step(0, 0), 9);
        c.due("other STEPS as at first", x.step(1, 0), 4);
        c.due("LUMPS", x.there(4, 23), 999);
        int[] moon = {4, 5, 23, 9};
        for (int what = 0; what < 4; what++) c.due("MOON", x.about(0, what), moon[what]);
        c.due("many blanks", Checks.read(x, "   ring   006  ;  step 1 002 ;  "), 2);
        c.due("STEP 002", x.step(1, 2), 2);
        c.due("the last of two counts", Checks.read(x, "ring 6;lumps 0 0 5;lumps 0 0 2;step 3 1;step 3 8;"), 5);
        c.due("LUMPS of two", x.count(1), 2);
        c.due("STEP of two", x.step(3, 8), 8);
        c.due("four MOONS", Checks.read(x, "ring 6;moon 0 0 0 0;moon 1 1 1 1;moon 2 2 2 2;moon 3 3 3 3;"), 5);
        c.due("MOONS", x.count(2), 4);
        c.due("the text stays", x.read(), 5);

        // what a read RING leaves
        x.ring(4);
        x.lumps(4, 0, 6);
        x.moon(PLAIN, 4, 1, 0);
        x.told(1, 5);
        x.image(1);
        x.fee(0, 1);
        x.round();
        x.undo();
        x.undo();
        x.round();
        int no = x.status(1);
        c.due("read", Checks.read(x, "ring 5;"), 1);
        c.asAtFirst("read:", x, 5);
        c.due("bytes stay", x.count(6), 7);
        c.due("THE FRACTION stays", x.part(0), 6);
        c.due("STATUS stays", x.status(1), no);
        c.due("the IMAGE stays", x.from(1), 1);
        c.due("as it was", x.there(4, 0), 6);
    }

    private static void fault(String text, int at) {
        RingShepherds x = new RingShepherds();
        x.lumps(1, 2, 3);
        x.moon(PLAIN, 1, 0, 2);
        x.told(0, 4);
        x.round();
        x.clear();
        Checks.type(x, text);
        long before = x.digest();
        c.due("read of '" + text + "'", x.read(), -10 - at);
        c.due("all stays by '" + text + "'", x.digest(), before);
        for (int what = 0; what < 3; what++) c.due("no refusal by '" + text + "'", x.status(what), 0);
    }

    private static void readFaults() {
        fault("", 0);
        fault("   ", 3);
        fault("ring", 4);
        fault("ring 4", 6);
        fault("ring 4  ", 8);
        fault("rin", 0);
        fault("rings 4;", 0);
        fault("ringa 4;", 0);
        fault("ringz 4;", 0);
        fault("king 4;", 0);
        fault("ring`4;", 4);
        fault("ring{4;", 4);
        fault("ring 4/", 6);
        fault("ring 4:", 6);
        fault("Ring 4;", 0);
        fault(" ; ring 4;", 1);
        fault("4;", 0);
        fault("step 0 1;ring 4;", 0);
        fault("ring 3;", 5);
        fault("ring 25;", 5);
        fault("ring 0004;", 5);
        fault("ring;", 4);
        fault("ring ring 4;", 5);
        fault("ring 4 4;", 7);
        fault("ring 4,", 6);
        fault("ring 4;;", 7);
        fault("ring 4;4;", 7);
        fault("ring 4;ring 4;", 7);
        fault("ring 4; ring", 8);
        fault("ring 4;st", 7);
        fault("ring 4;soon 0 0 0 0;", 7);
        fault("ring 4;bumps 0 0 0;", 7);
        fault("ring 4;stem 0 0;", 7);
        fault("ring 4;stepstep 0 0;", 7);
        fault("ring 4;step", 11);
        fault("ring 4;step 0", 13);
        fault("ring 4;step 0 1", 15);
        fault("ring 4;step 5 0;", 12);
        fault("ring 4;step 0 10;", 14);
        fault("ring 4;step 0;", 13);
        fault("ring 4;step 0 1 1;", 16);
        fault("ring 4;lumps 5 0 0;", 13);
        fault("ring 4;lumps 0 4 0;", 15);
        fault("ring 4;lumps 0 0 1000;", 17);
        fault("ring 4;lumps 0 0 99999999999999;", 17);
        fault("ring 4;lumps 0 0 -1;", 17);
        fault("ring 4;lumps 0 0 1.5;", 18);
        fault("ring 4;moon 5 0 0 0;", 12);
        fault("ring 4;moon 0 6 0 0;", 14);
        fault("ring 4;moon 0 0 4 0;", 16);
        fault("ring 4;moon 0 0 0 10;", 18);
        fault("ring 4;moon 0 0 0 0", 19);
        String four = "moon 0 0 0 0;moon 0 0 0 0;moon 0 0 0 0;moon 0 0 0 0;";
        fault("ring 4;" + four + " moon 9", 60);
        fault("ring 4;" + four + "moon", 59);
        fault("ring 4;\n", 7);
        fault("ring\t4;", 4);
        fault("ring 4;step 0 1;" + (char) 233, 16);
        fault("ring 4;" + (char) 0, 7);
        fault("ring 4a;", 6);
        fault("ring a4;", 5);
    }

    private static void roundGoesOn() {
        RingShepherds x = new RingShepherds();
        for (int lane = 0; lane < 5; lane++) x.lumps(lane, 10, lane + 1);
        c.due("nothing is lost", x.round(), 0);
        int[] places = {3, 2, 1, 0, 11};
        for (int lane = 0; lane < 5; lane++) c.due("lane " + lane + " went on", x.there(lane, places[lane]), lane + 1);
        c.due("all are there", x.count(1), 15);
        c.due("THE ROUND", x.count(3), 1);
        RingShepherds y = new RingShepherds();
        y.ring(4);
        y.step(0, 9);
        y.lumps(0, 3, 2);
        y.moon(PLAIN, 5, 3, 9);
        y.round();
        c.due("9 by 4 PLACES", y.there(0, 0), 2);
        c.due("the MOON, too", y.about(0, 2), 0);
    }

    private static RingShepherds byMoon(int kind, int edge, int place) {
        RingShepherds x = Rings.still(6);
        for (int lane = 0; lane < 5; lane++) {
            for (int p = 0; p < 6; p++) x.lumps(lane, p, 10 * lane + p + 1);
        }
        x.moon(kind, edge, place, 0);
        return x;
    }

    private static void column(String what, RingShepherds x, int place, int... due) {
        for (int lane = 0; lane < 5; lane++) c.due(what + ", lane " + lane, x.there(lane, place), due[lane]);
    }

    private static void roundByKinds() {
        RingShepherds x = byMoon(PLAIN, 2, 0);
        c.due("PLAIN", x.round(), 0);
        column("PLAIN", x, 0, 12, 0, 0, 52, 41);
        column("not beside her", x, 1, 2, 12, 22, 32, 42);
        column("nor on the other side", x, 5, 6, 16, 26, 36, 46);

        x = byMoon(PLAIN, 1, 0);
        c.due("PLAIN at EDGE 1", x.round(), 1);
        column("PLAIN at EDGE 1", x, 0, 0, 0, 32, 31, 41);
        x = byMoon(PLAIN, 4, 0);
        c.due("PLAIN at EDGE 4", x.round(), 41);
        column("PLAIN at EDGE 4", x, 0, 1, 11, 52, 0, 0);
        x = byMoon(PLAIN, 0, 0);
        c.due("PLAIN at EDGE 0", x.round(), 0);
        column("PLAIN at EDGE 0", x, 0, 0, 12, 21, 31, 41);
        x = byMoon(PLAIN, 5, 0);
        c.due("PLAIN at EDGE 5", x.round(), 0);
        column("PLAIN at EDGE 5", x, 0, 1, 11, 21, 72, 0);

        x = byMoon(WIDE, 4, 0);
        c.due("WIDE", x.round(), 41 + 42 + 46);
        column("WIDE", x, 0, 1, 11, 52, 0, 0);
        column("WIDE beside", x, 1, 2, 12, 54, 0, 0);
        column("WIDE on the other side", x, 5, 6, 16, 62, 0, 0);
        column("WIDE no further", x, 2, 3, 13, 23, 33, 43);
        column("WIDE no further back", x, 4, 5, 15, 25, 35, 45);
        c.due("STRAYS", x.count(4), 129);

        x = byMoon(DRAWING, 2, 5);
        c.due("DRAWING", x.round(), 0);
        column("DRAWING changes both at once", x, 5, 6, 26, 16, 36, 46);
        column("DRAWING is not wide", x, 0, 1, 11, 21, 31, 41);
        x = byMoon(DRAWING, 0, 5);
        c.due("DRAWING at EDGE 0", x.round(), 6);
        column("DRAWING at EDGE 0", x, 5, 0, 16, 26, 36, 46);
        x = byMoon(DRAWING, 5, 5);
        c.due("DRAWING at EDGE 5", x.round(), 46);
        column("DRAWING at EDGE 5", x, 5, 6, 16, 26, 36, 0);

        x = byMoon(STRONG, 2, 1);
        c.due("STRONG", x.round(), 11 + 12 + 13);
        column("STRONG", x, 1, 2, 0, 0, 32, 64);
        column("STRONG is wide", x, 0, 1, 0, 0, 31, 62);
        column("STRONG on the other side", x, 2, 3, 0, 0, 33, 66);
        column("STRONG no further", x, 3, 4, 14, 24, 34, 44);
        x = byMoon(STRONG, 0, 1);
        c.due("STRONG at EDGE 0", x.round(), 0);
        column("STRONG at EDGE 0", x, 1, 0, 12, 24, 32, 42);
        x = byMoon(STRONG, 5, 1);
        c.due("STRONG at EDGE 5", x.round(), 0);
        column("STRONG at EDGE 5", x, 1, 2, 12, 64, 32, 0);

        x = byMoon(SLEEPY, 0, 1);
        for (int round = 1; round <= 7; round++) {
            x.lumps(0, 1, 5);
            x.lumps(1, 1, 0);
            x.round();
            c.due("SLEEPY in ROUND " + round, x.there(1, 1), round % 3 == 0 ? 0 : 5);
        }
        x = byMoon(SLEEPY, 1, 1);
        x.round();
        column("SLEEPY is PLAIN", x, 1, 0, 0, 34, 32, 42);
        column("SLEEPY is not wide", x, 2, 3, 13, 23, 33, 43);
    }

    private static void roundInOrder() {
        RingShepherds x = Rings.still(4);
        x.lumps(2, 0, 7);
        x.moon(PLAIN, 2, 0, 0);
        x.moon(PLAIN, 3, 0, 0);
        x.moon(PLAIN, 4, 0, 0);
        c.due("three MOONS one behind the other", x.round(), 7);
        x = Rings.still(4);
        x.lumps(2, 0, 7);
        x.moon(PLAIN, 4, 0, 0);
        x.moon(PLAIN, 3, 0, 0);
        x.moon(PLAIN, 2, 0, 0);
        c.due("the other way", x.round(), 0);
        c.due("it went in twice", x.there(0, 0), 7);

        x = Rings.still(4);
        x.step(1, 1);
        x.lumps(1, 3, 2);
        x.moon(PLAIN, 1, 3, 1);
        x.round();
        c.due("LUMPS and MOONS go on first", x.there(2, 0), 2);
        x.round();
        c.due("then she is gone", x.there(2, 0), 2);

        x = Rings.still(4);
        for (int lane = 0; lane < 5; lane++) x.lumps(lane, 0, 999);
        x.moon(PLAIN, 0, 0, 0);
        x.moon(PLAIN, 1, 0, 0);
        x.moon(PLAIN, 2, 0, 0);
        x.round();
        c.due("more than 999 may come together", x.there(3, 0), 3996);
    }

    private static void undo() {
        RingShepherds x = Rings.still(4);
        c.due("none", x.undo(), -3);
        x.lumps(4, 0, 5);
        x.lumps(4, 1, 3);
        x.moon(PLAIN, 4, 3, 1);
        c.due("round 1", x.round(), 5);
        x.step(0, 7);
        x.told(3, 12);
        x.lumps(2, 2, 9);
        x.moon(DRAWING, 1, 1, 1);
        c.due("round 2", x.round(), 3);
        c.due("two", x.count(5), 2);
        c.due("the second MOON went", x.about(1, 2), 2);
        c.due("undo", x.undo(), 1);
        c.due("back to ROUND 1", x.count(3), 1);
        c.due("STRAYS", x.count(4), 5);
        c.due("LUMPS told are there", x.there(2, 2), 9);
        c.due("3 are back", x.there(4, 1), 3);
        c.due("MOON 0", x.about(0, 2), 0);
        c.due("MOON 1", x.about(1, 2), 1);
        c.due("undo again", x.undo(), 1);
        c.due("THE ROUND", x.count(3), 0);
        c.due("no STRAYS", x.count(4), 0);
        c.due("5 are back", x.there(4, 0), 5);
        c.due("LUMPS told since are gone", x.there(2, 2), 0);
        c.due("MOON 0 is back", x.about(0, 2), 3);
        c.due("a MOON that came since stays", x.count(2), 2);
        c.due("where she is", x.about(1, 2), 1);
        c.due("her KIND", x.about(1, 0), DRAWING);
        c.due("STEP told stays", x.step(0, 7), 7);
        c.due("COUNTS told stay", x.told(3, 0), 12);
        c.due("no more", x.undo(), -3);
        c.due("NO twice", x.status(1), 2);

        x = new RingShepherds();
        x.lumps(4, 0, 1);
        for (int i = 1; i <= 9; i++) {
            x.round();
            c.due("that may be undone", x.count(5), Math.min(i, 6));
        }
        for (int i = 1; i <= 6; i++) {
            c.due("undo", x.undo(), 1);
            c.due("place", x.there(4, 9 - i), 1);
        }
        c.due("6 at most", x.undo(), -3);
        c.due("THE ROUND", x.count(3), 3);
        x.round();
        c.due("one more", x.count(5), 1);
        c.due("undone", x.undo(), 1);
        c.due("place", x.there(4, 3), 1);
    }

    private static void thereAndAbout() {
        RingShepherds x = new RingShepherds();
        x.lumps(1, 0, 5);
        x.lumps(1, 11, 7);
        c.due("there(1, 0)", x.there(1, 0), 5);
        c.due("there(1, 11)", x.there(1, 11), 7);
        c.due("there(1, 1)", x.there(1, 1), 0);
        c.due("in all", x.there(1, -1), 12);
        c.due("in all of another", x.there(2, -1), 0);
        for (int lane : new int[] {-1, 5, MIN, MAX}) c.due("there by lane " + lane, x.there(lane, 0), -10);
        for (int place : new int[] {-2, 12, MIN, MAX}) c.due("there by place " + place, x.there(0, place), -10);
        c.due("each is BAD", x.status(0), 8);
        x.moon(3, 5, 11, 9);
        x.moon(1, 2, 3, 4);
        int[][] due = {{3, 5, 11, 9}, {1, 2, 3, 4}};
        for (int moon = 0; moon < 2; moon++) {
            for (int what = 0; what < 4; what++) c.due("about", x.about(moon, what), due[moon][what]);
        }
        x.round();
        c.due("she went", x.about(0, 2), 8);
        c.due("she went, too", x.about(1, 2), 7);
        for (int moon : new int[] {-1, 2, 4, MIN, MAX}) c.due("about moon " + moon, x.about(moon, 0), -2);
        for (int what : new int[] {-1, 4, MIN, MAX}) c.due("about what " + what, x.about(0, what), -2);
    }

    private static void where(String what, RingShepherds x, int lane, int place, int k, int... due) {
        for (int i = 0; i < 3; i++) c.due(what + " " + i, x.where(lane, place, k, i), due[i]);
    }

    private static void where() {
        RingShepherds x = new RingShepherds();
        where("no ROUND", x, 3, 7, 0, 3, 7, 0);
        where("60 ROUNDS", x, 3, 7, 60, 3, 7, 0);
        where("1 ROUND", x, 0, 11, 1, 0, 4, 0);
        x = Rings.still(6);
        x.step(4, 1);
        x.step(3, 2);
        x.moon(PLAIN, 5, 1, 0);
        where("pushed in", x, 4, 0, 1, 3, 1, 1);
        where("and goes on otherwise", x, 4, 0, 2, 3, 3, 1);
        where("to where she does not push", x, 4, 0, 4, 3, 1, 1);
        x.moon(PLAIN, 3, 5, 0);
        x.moon(STRONG, 4, 5, 0);
        where("pushed thrice, LOST where it was", x, 4, 0, 3, -1, 5, 3);
        where("LOST for good", x, 4, 0, 60, -1, 5, 3);
        x = Rings.still(6);
        x.moon(STRONG, 3, 0, 0);
        where("by 2 is once", x, 3, 1, 1, -1, 1, 1);
        where("from the inner LANE", x, 2, 5, 1, 0, 5, 1);
        x = Rings.still(6);
        x.moon(SLEEPY, 2, 0, 0);
        x.round();
        x.round();
        where("she sleeps in ROUND 3", x, 2, 0, 1, 2, 0, 0);
        where("but not in ROUND 4", x, 2, 0, 2, 3, 0, 1);
        x.lumps(2, 0, 1);
        c.due("as it is then", x.round(), 0);
        c.due("it stayed", x.there(2, 0), 1);
        x = Rings.still(6);
        x.moon(DRAWING, 2, 0, 0);
        where("to and fro", x, 1, 0, 60, 1, 0, 60);
        x = Rings.still(5);
        x.moon(PLAIN, 2, 4, 3);
        where("as she comes by", x, 2, 0, 2, 3, 0, 1);
        where("not ahead of it", x, 2, 0, 1, 2, 0, 0);
        for (int v : new int[] {-1, 5, MIN, MAX}) c.due("where by lane", x.where(v, 0, 0, 0), -10);
        for (int v : new int[] {-1, 5, MIN, MAX}) c.due("where by place", x.where(0, v, 0, 0), -10);
        for (int v : new int[] {-1, 61, MIN, MAX}) c.due("where by k", x.where(0, 0, v, 0), -10);
        for (int v : new int[] {-1, 3, MIN, MAX}) c.due("where by what", x.where(0, 0, 0, v), -10);
        c.due("each is BAD", x.status(0), 16);
    }

    private static void loss() {
        RingShepherds x = Rings.still(4);
        x.lumps(4, 0, 5);
        x.lumps(4, 1, 6);
        x.lumps(4, 2, 7);
        x.lumps(0, 3, 8);
        x.moon(SLEEPY, 4, 3, 1);
        c.due("loss(0)", x.loss(0), 0);
        c.due("loss(1)", x.loss(1), 5);
        c.due("loss(2)", x.loss(2), 11);
        c.due("loss(3): she sleeps", x.loss(3), 11);
        c.due("loss(7)", x.loss(7), 18);
        c.due("loss(60)", x.loss(60), 18);
        x.round();
        c.due("from now", x.loss(1), 6);
        for (int k : new int[] {-1, 61, MIN, MAX}) c.due("loss(" + k + ")", x.loss(k), -2);
        c.due("four BAD", x.status(0), 4);
    }

    private static void pushes() {
        RingShepherds x = Rings.still(4);
        x.lumps(4, 0, 5);
        x.lumps(4, 1, 2);
        x.moon(PLAIN, 4, 0, 0);
        c.due("pushes(0)", x.pushes(0), 0);
        c.due("in once", x.pushes(1), 5);
        c.due("in once, then it is away", x.pushes(12), 5);
        x = Rings.still(4);
        x.lumps(4, 0, 3);
        x.moon(DRAWING, 5, 0, 0);
        x.moon(PLAIN, 4, 0, 0);
        c.due("in once: PLAIN takes it further in", x.pushes(12), 3);
        x = Rings.still(4);
        x.lumps(0, 0, 3);
        x.moon(PLAIN, 2, 0, 0);
        x.moon(DRAWING, 0, 0, 0);
        c.due("once a ROUND is not enough", x.pushes(1), -1);
        x.lumps(0, 0, 0);
        c.due("none is there", x.pushes(12), 0);
        x.lumps(1, 0, 4);
        c.due("out once", x.pushes(1), 4);
        c.due("and for good", x.pushes(12), 4);
        x.lumps(0, 0, 1);
        c.due("one that can not is enough", x.pushes(1), -1);

        // a MOON that comes to it in ROUND 3 only, when a push in time is as good as any
        x = Rings.still(8);
        x.lumps(4, 0, 7);
        x.moon(PLAIN, 4, 5, 1);
        c.due("not yet", x.pushes(2), 0);
        c.due("in time", x.pushes(3), 7);

        // from LANES 3 and 4 it is LOST, and from LANE 2 it comes to 3: a push in each ROUND
        x = Rings.still(4);
        x.lumps(3, 0, 2);
        x.moon(STRONG, 3, 0, 0);
        x.moon(STRONG, 0, 0, 0);
        x.moon(PLAIN, 2, 0, 0);
        x.moon(DRAWING, 5, 0, 0);
        for (int k = 0; k <= 12; k++) c.due("in each ROUND", x.pushes(k), 2 * k);
        x.lumps(4, 0, 3);
        c.due("from LANE 4 it is too far", x.pushes(1), -1);

        for (int k : new int[] {-1, 13, 60, MIN, MAX}) c.due("pushes(" + k + ")", x.pushes(k), -2);
        c.due("five BAD", x.status(0), 5);
        c.due("no NO", x.status(1), 0);
    }

    private static void moved() {
        RingShepherds x = Rings.still(6);
        x.lumps(4, 0, 5);
        x.lumps(4, 1, 2);
        x.lumps(4, 2, 3);
        x.moon(PLAIN, 4, 0, 0);
        c.due("to where none is", x.moved(0, 1), 3);
        c.due("in no ROUND all are like", x.moved(0, 0), 0);
        x.lumps(4, 3, 1);
        x.lumps(4, 4, 1);
        x.lumps(4, 5, 1);
        c.due("the least", x.moved(0, 60), 3);
        x.lumps(4, 5, 0);
        c.due("the last PLACE", x.moved(0, 1), 5);
        x.lumps(4, 0, 0);
        c.due("of like ones the least", x.moved(0, 1), 0);
        x.moon(PLAIN, 5, 2, 0);
        c.due("another MOON", x.moved(1, 1), 0);
        RingShepherds y = Rings.still(6);
        y.lumps(4, 2, 4);
        y.moon(PLAIN, 4, 2, 0);
        y.moon(DRAWING, 4, 0, 0);
        c.due("MOON 1 comes too late to help", y.moved(1, 1), 0);
        RingShepherds z = Rings.still(6);
        z.lumps(4, 2, 4);
        z.moon(DRAWING, 4, 0, 0);
        z.moon(PLAIN, 4, 2, 0);
        c.due("MOON 0 helps at 2", z.moved(0, 1), 2);
        for (int moon : new int[] {-1, 2, MIN, MAX}) c.due("moved by moon " + moon, x.moved(moon, 0), -2);
        for (int k : new int[] {-1, 61, MIN, MAX}) c.due("moved by k " + k, x.moved(0, k), -2);
        c.due("eight BAD", x.status(0), 8);
    }

    private static void road() {
        RingShepherds x = new RingShepherds();
        c.due("an empty RING", x.road(11, 60, 0), 0);
        c.due("for all", x.road(11, 60, 1), 61);
        c.due("now alone", x.road(0, 0, 1), 1);
        x = Rings.still(4);
        x.step(0, 1);
        x.lumps(0, 0, 1);
        c.due("shut now", x.road(0, 0, 0), -1);
        c.due("shut now, how long", x.road(0, 0, 1), -1);
        c.due("open behind 1", x.road(0, 60, 0), 1);
        c.due("for 3", x.road(0, 60, 1), 3);
        c.due("up to k", x.road(0, 2, 1), 2);
        c.due("open now at 3", x.road(3, 60, 0), 0);
        c.due("for 3, too", x.road(3, 60, 1), 3);
        x.lumps(4, 0, 1);
        c.due("another LANE shuts it", x.road(0, 60, 0), -1);
        x.moon(PLAIN, 4, 2, 0);
        x.moon(PLAIN, 4, 2, 1);
        c.due("until it is LOST", x.road(0, 60, 0), 2);
        c.due("for 2 then", x.road(0, 60, 1), 2);
        for (int v : new int[] {-1, 4, MIN, MAX}) c.due("road by place", x.road(v, 0, 0), -10);
        for (int v : new int[] {-1, 61, MIN, MAX}) c.due("road by k", x.road(0, v, 0), -10);
        for (int v : new int[] {-1, 2, MIN, MAX}) c.due("road by what", x.road(0, 0, v), -10);
        c.due("each is BAD, none of NONE", x.status(0), 12);
    }

    private static void back() {
        RingShepherds x = new RingShepherds();
        c.due("at first", x.back(), 12);
        x = Rings.still(12);
        c.due("nothing goes", x.back(), 1);
        x.step(1, 8);
        c.due("by 8 of 12", x.back(), 3);
        x.step(2, 6);
        c.due("and by 6", x.back(), 6);
        x.moon(SLEEPY, 0, 0, 9);
        c.due("and a MOON by 9; that she sleeps does not count", x.back(), 12);
        x = Rings.still(24);
        x.step(0, 8);
        x.step(4, 9);
        c.due("3 and 8", x.back(), 24);
        x = Rings.still(6);
        x.step(3, 6);
        c.due("once round", x.back(), 1);
        x.moon(SLEEPY, 0, 0, 3);
        c.due("2", x.back(), 2);
        x = Rings.still(23);
        x.step(3, 9);
        c.due("23", x.back(), 23);
    }

    private static void toldAndTaken() {
        RingShepherds x = Rings.still(4);
        c.due("told", x.told(0, 9999), 0);
        c.due("told again", x.told(0, 0), 9999);
        for (int v : new int[] {-1, 5, MIN, MAX}) c.due("told by lane", x.told(v, 0), -2);
        for (int v : new int[] {-1, 10000, MIN, MAX}) c.due("told by n", x.told(0, v), -2);
        c.due("it stays", x.told(0, 0), 0);
        c.due("nothing there, nothing taken", x.taken(0, -1), 0);

        x.lumps(1, 0, 5);
        x.lumps(1, 1, 3);
        x.lumps(1, 3, 5);
        x.lumps(2, 2, 5);
        x.told(1, 8);
        x.told(2, 5);
        c.due("two may be", x.taken(0, -1), 2);
        c.due("the first", x.taken(0, 0), 100);
        c.due("the next", x.taken(0, 1), 103);
        c.due("no more", x.taken(0, 2), -5);
        c.due("far more", x.taken(0, MAX), -5);
        x.told(1, 13);
        x.told(2, 0);
        c.due("the other LANE", x.taken(0, 0), 202);
        x.told(3, 1);
        c.due("all LANES count", x.taken(0, -1), 0);
        x.told(3, 0);

        // behind a ROUND: 1 at 3 goes to LANE 0, 2 at 2 goes to LANE 3
        x.moon(PLAIN, 2, 3, 0);
        x.moon(PLAIN, 2, 2, 0);
        x.told(0, 0);
        x.told(1, 13);
        x.told(2, 0);
        c.due("not so, were none taken", x.taken(1, -1), 0);
        x.told(1, 8);
        x.told(0, 0);
        x.told(2, 0);
        x.told(3, 5);
        c.due("one is taken from where it began", x.taken(1, -1), 1);
        c.due("there", x.taken(1, 0), 103);
        x.told(0, 5);
        x.told(3, 0);
        c.due("or the one that went out", x.taken(1, 0), 202);

        // what would be LOST is not missed
        RingShepherds y = Rings.still(4);
        y.lumps(4, 2, 6);
        y.lumps(0, 0, 1);
        y.moon(PLAIN, 4, 2, 0);
        y.told(0, 1);
        c.due("LOST or taken", y.taken(1, -1), 1);
        c.due("it", y.taken(1, 0), 402);
        c.due("not so now", y.taken(0, 0), 402);
        y.told(4, 6);
        c.due("none is missed", y.taken(0, -1), 0);
        allMayBeTaken();
        int before = y.status(0);
        for (int v : new int[] {-1, 61, MIN, MAX}) c.due("taken by k", y.taken(v, 0), -10);
        for (int v : new int[] {-2, MIN}) c.due("taken by i", y.taken(0, v), -10);
        c.due("each is BAD, -5 is not", y.status(0) - before, 6);
    }

    /** Two passes of three MOONS lose everything, so each PLACE of the 120 may have been the one. */
    private static void allMayBeTaken() {
        RingShepherds x = Rings.still(24);
        for (int lane = 0; lane < 5; lane++) {
            for (int place = 0; place < 24; place++) x.lumps(lane, place, 1 + place);
        }
        x.moon(PLAIN, 4, 0, 1);
        x.moon(PLAIN, 1, 0, 1);
        x.moon(STRONG, 2, 0, 1);
        c.due("all are LOST", x.loss(60), 5 * 300);
        c.due("all may be taken", x.taken(60, -1), 120);
        c.due("the first of all", x.taken(60, 0), 0);
        c.due("the last of all", x.taken(60, 119), 423);
        c.due("behind the last", x.taken(60, 120), -5);
    }

    private static void game(RingShepherds x, int n, int ahead, int lane) {
        c.due("game(" + n + ", 0)", x.game(n, 0), ahead);
        c.due("game(" + n + ", 1)", x.game(n, 1), lane);
    }

    private static void lanes(RingShepherds x, int... n) {
        for (int lane = 0; lane < 5; lane++) {
            x.lumps(lane, 0, n[lane] / 2);
            x.lumps(lane, 3, n[lane] - n[lane] / 2);
        }
    }

    private static void game() {
        RingShepherds x = new RingShepherds();
        for (int n = 1; n <= 6; n++) game(x, n, 0, -1);
        lanes(x, 3, 9, 0, 4, 0);
        game(x, 1, 9, 1);
        game(x, 2, 5, 1);
        game(x, 3, 8, 1);
        game(x, 4, 8, 1);
        game(x, 6, 8, 1);
        lanes(x, 7, 7, 7, 7, 7);
        game(x, 1, 7, 0);
        game(x, 2, 0, 0);
        game(x, 5, 7, 0);
        // 3 first, then 5 and 5, is as good as 5 and 5, then 3
        lanes(x, 3, 5, 5, 0, 0);
        game(x, 1, 5, 1);
        game(x, 2, 0, 1);
        game(x, 3, 3, 0);
        lanes(x, 0, 0, 2, 6, 6);
        game(x, 3, 2, 2);
        game(x, 1, 6, 3);
        RingShepherds y = Rings.still(4);
        y.lumps(4, 0, 9);
        y.lumps(1, 0, 2);
        y.moon(PLAIN, 4, 0, 0);
        y.round();
        game(y, 1, 2, 1);
        for (int v : new int[] {0, 7, -1, MIN, MAX}) c.due("game by n", y.game(v, 0), -100000);
        for (int v : new int[] {-1, 2, MIN, MAX}) c.due("game by what", y.game(1, v), -100000);
        c.due("each is BAD", y.status(0), 9);
    }

    private static void fee(RingShepherds x, int moon, int k, long above, long below) {
        c.due("fee(" + moon + ", " + k + ")", x.fee(moon, k), 1);
        c.due("above of " + moon, x.part(0), above);
        c.due("below of " + moon, x.part(1), below);
    }

    private static void fee() {
        RingShepherds x = Rings.still(4);
        x.lumps(4, 0, 5);
        x.moon(PLAIN, 4, 0, 0);
        fee(x, 0, 0, 0, 1);
        fee(x, 0, 1, 5, 1);
        x.moon(PLAIN, 4, 0, 0);
        fee(x, 0, 1, 5, 2);
        fee(x, 1, 1, 5, 2);

        // DRAWING ahead of PLAIN saves what PLAIN would lose
        x = Rings.still(4);
        x.lumps(4, 0, 3);
        x.moon(DRAWING, 4, 0, 0);
        x.moon(PLAIN, 4, 0, 0);
        fee(x, 0, 1, -3, 2);
        fee(x, 1, 1, 3, 2);

        // each of the MOONS is needed
        x = Rings.still(4);
        x.lumps(2, 0, 1);
        x.moon(PLAIN, 2, 0, 0);
        x.moon(PLAIN, 3, 0, 0);
        x.moon(PLAIN, 4, 0, 0);
        for (int moon = 0; moon < 3; moon++) fee(x, moon, 1, 1, 3);
        x = Rings.still(4);
        x.lumps(1, 0, 6);
        for (int edge = 1; edge <= 4; edge++) x.moon(PLAIN, edge, 0, 0);
        for (int moon = 0; moon < 4; moon++) fee(x, moon, 1, 3, 2);
        x.lumps(1, 0, 5);
        fee(x, 3, 1, 5, 4);
        long before = x.part(0);
        for (int moon : new int[] {-1, 4, MIN, MAX}) c.due("fee by moon " + moon, x.fee(moon, 0), -2);
        for (int k : new int[] {-1, 61, MIN, MAX}) c.due("fee by k " + k, x.fee(0, k), -2);
        c.due("THE FRACTION stays", x.part(0), before);
        c.due("no MOON", new RingShepherds().fee(0, 0), -2);
    }

    private static void part() {
        RingShepherds x = new RingShepherds();
        for (int v : new int[] {-1, 2, MIN, MAX}) c.due("part(" + v + ")", x.part(v), -100000);
        c.due("each is BAD", x.status(0), 4);
        c.due("above", x.part(0), 0);
        c.due("below", x.part(1), 1);
    }

    private static void images() {
        RingShepherds x = Rings.still(4);
        x.lumps(4, 0, 5);
        x.moon(PLAIN, 4, 3, 1);
        x.told(2, 8);
        x.round();
        x.round();
        c.due("image(0)", x.image(0), 1);
        long kept = x.digest();
        c.due("from(1): none", x.from(1), -3);
        x.ring(9);
        x.lumps(0, 8, 4);
        x.moon(STRONG, 1, 8, 9);
        x.round();
        c.due("image(1)", x.image(1), 1);
        long other = x.digest();
        c.due("from(0)", x.from(0), 1);
        c.due("all as it was", x.digest(), kept);
        c.due("what may be undone", x.count(5), 2);
        x.undo();
        x.undo();
        c.due("undone from an IMAGE", x.there(4, 0), 5);
        c.due("her PLACE", x.about(0, 2), 3);
        c.due("from(1)", x.from(1), 1);
        c.due("the other one", x.digest(), other);
        c.due("its past is its own", x.count(5), 1);
        x.lumps(0, 0, 1);
        x.round();
        c.due("from(0) again", x.from(0), 1);
        c.due("it is kept still", x.digest(), kept);

        // THE TEXT, THE FRACTION and STATUS go on
        Checks.type(x, "ring 4;");
        x.undo();
        x.undo();
        x.fee(0, 1);
        int bad = x.status(0);
        int no = x.status(1);
        x.from(1);
        c.due("THE TEXT", x.count(6), 7);
        c.due("THE FRACTION", x.part(0), 5);
        c.due("STATUS", x.status(0), bad);
        c.due("STATUS of NO", x.status(1), no);
        x.image(0);
        x.from(0);
        c.due("an IMAGE is kept anew", x.count(0), 9);
        for (int i : new int[] {-1, 2, MIN, MAX}) {
            c.due("image(" + i + ")", x.image(i), -2);
            c.due("from(" + i + ")", x.from(i), -2);
        }
        c.due("eight BAD", x.status(0) - bad, 8);

        // seven ROUNDS, an IMAGE, more ROUNDS: the IMAGE's six are untouched
        x = new RingShepherds();
        x.lumps(4, 0, 1);
        for (int i = 0; i < 7; i++) x.round();
        x.image(1);
        for (int i = 0; i < 5; i++) x.round();
        x.from(1);
        for (int i = 6; i >= 1; i--) {
            c.due("undo", x.undo(), 1);
            c.due("place", x.there(4, i), 1);
        }
        c.due("six", x.undo(), -3);
    }

    private static void status() {
        RingShepherds x = new RingShepherds();
        c.due("status(3)", x.status(3), -1);
        c.due("status(-1)", x.status(-1), -1);
        c.due("status(MIN)", x.status(MIN), -1);
        c.due("status(MAX)", x.status(MAX), -1);
        c.due("they count as BAD", x.status(0), 4);
        c.due("no NO", x.status(1), 0);
        x.undo();
        x.from(1);
        c.due("NO", x.status(1), 2);
        for (int i = 0; i < 6; i++) x.moon(0, 0, 0, 0);
        c.due("FULL", x.status(2), 2);
        c.due("BAD as before", x.status(0), 4);
    }

    /** Every call that may be BAD counts once, whatever it answers. */
    private static void statusByCall() {
        RingShepherds x = new RingShepherds();
        int n = 0;
        x.ring(0);
        c.due("BAD of ring", x.status(0), ++n);
        x.step(9, 9);
        c.due("BAD of step", x.status(0), ++n);
        x.lumps(9, 99, 9999);
        c.due("BAD of lumps", x.status(0), ++n);
        x.moon(9, 9, 99, 99);
        c.due("BAD of moon", x.status(0), ++n);
        x.type(0, 0);
        c.due("BAD of type", x.status(0), ++n);
        x.there(9, 0);
        c.due("BAD of there", x.status(0), ++n);
        x.about(0, 0);
        c.due("BAD of about", x.status(0), ++n);
        x.where(9, 9, 9, 9);
        c.due("BAD of where", x.status(0), ++n);
        x.loss(-1);
        c.due("BAD of loss", x.status(0), ++n);
        x.pushes(13);
        c.due("BAD of pushes", x.status(0), ++n);
        x.moved(0, 0);
        c.due("BAD of moved", x.status(0), ++n);
        x.road(12, 0, 0);
        c.due("BAD of road", x.status(0), ++n);
        x.told(0, -1);
        c.due("BAD of told", x.status(0), ++n);
        x.taken(0, -2);
        c.due("BAD of taken", x.status(0), ++n);
        x.game(0, 0);
        c.due("BAD of game", x.status(0), ++n);
        x.fee(0, 0);
        c.due("BAD of fee", x.status(0), ++n);
        x.part(2);
        c.due("BAD of part", x.status(0), ++n);
        x.image(2);
        c.due("BAD of image", x.status(0), ++n);
        x.from(2);
        c.due("BAD of from", x.status(0), ++n);
        x.status(3);
        c.due("BAD of status", x.status(0), ++n);
        x.count(7);
        c.due("BAD of count", x.status(0), ++n);
        c.due("NO of none", x.status(1), 0);
        c.due("FULL of none", x.status(2), 0);
    }

    private static void count() {
        RingShepherds x = Rings.still(7);
        x.lumps(4, 0, 30);
        x.lumps(2, 6, 4);
        x.lumps(0, 3, 1);
        x.moon(PLAIN, 4, 6, 1);
        x.moon(PLAIN, 3, 6, 2);
        x.round();
        x.round();
        x.type(0, 5);
        int[] due = {7, 5, 2, 2, 30, 2, 5};
        for (int what = 0; what < 7; what++) c.due("count(" + what + ")", x.count(what), due[what]);
        for (int what : new int[] {-1, 7, MIN, MAX}) c.due("count(" + what + ")", x.count(what), -2);
        c.due("each is BAD", x.status(0), 4);
    }

    private static long fold(long h, long... values) {
        long sum = h;
        for (long v : values) sum = 31 * sum + v;
        return sum;
    }

    private static void digest() {
        RingShepherds x = new RingShepherds();
        long h = fold(821, 12, 0, 0, 0, 0, 0, 0);
        for (int lane = 0; lane < 5; lane++) h = fold(h, 5 - lane, 0, 0, 0, 0, 0, 0, 0, 0, 0, 0, 0, 0, 0);
        c.due("digest of a new one", x.digest(), fold(h, 0, 1));

        x = Rings.still(4);
        x.lumps(4, 0, 5);
        x.lumps(1, 2, 6);
        x.step(3, 7);
        x.told(0, 20);
        x.moon(DRAWING, 4, 3, 1);
        x.moon(PLAIN, 4, 0, 0);
        x.fee(0, 1);
        x.moon(STRONG, 0, 2, 6);
        x.round();
        x.type(0, 3);
        h = fold(821, 4, 11, 3, 1, 0, 1, 3);
        h = fold(h, 0, 20, 0, 0, 0, 0);
        h = fold(h, 0, 0, 0, 0, 6, 0);
        h = fold(h, 0, 0, 5, 0, 0, 0);
        h = fold(h, 7, 0, 0, 0, 0, 0);
        h = fold(h, 0, 0, 0, 0, 0, 0);
        h = fold(h, DRAWING, 4, 0, 1, PLAIN, 4, 0, 0, STRONG, 0, 0, 6);
        c.due("digest", x.digest(), fold(h, -5, 2));
        long before = x.digest();
        x.status(3);
        x.undo();
        x.round();
        c.due("STATUS is not in it", x.digest(), before);
    }

    private static void nothingIsChanged() {
        RingShepherds x = new RingShepherds();
        for (int lane = 0; lane < 5; lane++) {
            for (int place = 0; place < 12; place++) x.lumps(lane, place, 3 * lane + place);
        }
        x.moon(WIDE, 4, 2, 3);
        x.moon(SLEEPY, 1, 5, 7);
        x.round();
        long before = x.digest();
        x.where(4, 3, 60, 0);
        x.loss(60);
        x.pushes(12);
        x.moved(1, 60);
        x.road(3, 60, 1);
        x.back();
        x.taken(60, 0);
        x.game(6, 1);
        x.there(0, -1);
        x.about(0, 2);
        x.part(0);
        x.image(0);
        x.count(1);
        x.status(0);
        c.due("nothing is changed by what only looks ahead", x.digest(), before);
    }
}
