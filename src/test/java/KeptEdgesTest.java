import java.util.List;

/** The sentences on what is kept and counted: a new RING, UNDO, IMAGES, STATUS, THE FRACTION, counts, the digest. */
public final class KeptEdgesTest {
    private static final int PLAIN = Rings.PLAIN, WIDE = Rings.WIDE, DRAWING = Rings.DRAWING, STRONG = Rings.STRONG;

    private static final Checks c = new Checks();

    public static void main(String[] args) {
        aNewObject();
        aNewRing();
        nothingIsLeftBehindTheLastPlace();
        undoOfNone();
        undoOfSixAtMost();
        undoTakesBack();
        whatIsToldLeavesThem();
        lumpsToldSinceAreGone();
        aMoonThatCameSinceStays();
        undoAndOnAgain();
        nothingToUndoInANewRing();
        imagesOfNone();
        imagesKeepAll();
        imagesKeepTheirPlaces();
        imagesLeaveOut();
        imagesKeepWhatMayBeUndone();
        imagesAreApart();
        imagesStayWithANewRing();
        statusCounts();
        theFractionAtFirst();
        theFractionStays();
        countsOfAll();
        theDigest();
        c.end();
    }

    private static void aNewObject() {
        c.by("As told; no LUMPS, MOONS");
        RingShepherds x = new RingShepherds();
        c.asAtFirst("new:", x, 12);
        c.due("bytes", x.count(6), 0);
        for (int what = 0; what < 3; what++) c.due("STATUS", x.status(what), 0);
        c.due("above", x.part(0), 0);
        c.due("below", x.part(1), 1);
        for (int moon = 0; moon < 4; moon++) c.due("no MOON", x.about(moon, 0), -2);
        RingShepherds y = Rings.rich(24, 4);
        c.asAtFirst("another:", new RingShepherds(), 12);
        c.due("what another object has is its own", y.count(0), 24);
    }

    private static void aNewRing() {
        c.by("P PLACES, all as at first, no MOONS, COUNTS; nothing to undo: what P was");
        for (int p : new int[] {4, 6, 24}) {
            for (int next : new int[] {4, 6, 24}) {
                RingShepherds x = Rings.rich(p, 4);
                c.due("what P was", x.ring(next), p);
                c.asAtFirst("ring(" + next + "):", x, next);
                for (int moon = 0; moon < 4; moon++) c.due("no MOON", x.about(moon, 0), -2);
                c.due("nothing to undo", x.undo(), -3);
                c.due("the first MOON's number", x.moon(PLAIN, 4, next - 1, 1), 0);
                x.lumps(4, next - 1, 5);
                x.step(4, 1);
                c.due("it goes round by its own P", x.round(), 5);
                c.due("she, too", x.about(0, 2), 0);
            }
        }
    }

    private static void nothingIsLeftBehindTheLastPlace() {
        c.by("P PLACES, all as at first: also those that were not there in between");
        for (int way = 0; way < 2; way++) {
            RingShepherds x = new RingShepherds();
            x.ring(24);
            for (int lane = 0; lane < 5; lane++) x.lumps(lane, 23, 7);
            x.round();
            if (way == 0) x.ring(4);
            else c.due("read", Checks.read(x, "ring 4;"), 1);
            c.due("no LUMPS", x.count(1), 0);
            x.lumps(4, 3, 5);
            x.round();
            c.due("round by 4 PLACES", x.there(4, 0), 5);
            x.ring(24);
            c.due("none came back", x.count(1), 0);
            for (int lane = 0; lane < 5; lane++) c.due("at any PLACE", x.there(lane, 23) + x.there(lane, 4), 0);
        }
    }

    private static void undoOfNone() {
        c.by("UNDO: 1. NO: none may be");
        RingShepherds x = new RingShepherds();
        c.due("none", x.undo(), -3);
        x.lumps(0, 0, 1);
        x.step(0, 1);
        x.moon(0, 0, 0, 0);
        x.told(0, 1);
        x.image(0);
        c.due("what is told is no ROUND", x.undo(), -3);
        x.round();
        c.due("one", x.undo(), 1);
        c.due("no other", x.undo(), -3);
        c.due("NO thrice", x.status(1), 3);
        c.due("a refused one changes nothing", x.count(3), 0);
    }

    private static void undoOfSixAtMost() {
        c.by("(6 at most)");
        for (int rounds : new int[] {1, 5, 6, 7, 8, 12, 13, 20}) {
            RingShepherds x = new RingShepherds();
            x.ring(24);
            x.lumps(4, 0, 7);
            for (int i = 1; i <= rounds; i++) {
                x.round();
                c.due("that may be undone", x.count(5), Math.min(i, 6));
            }
            int back = Math.min(rounds, 6);
            for (int i = 1; i <= back; i++) {
                c.due("undo", x.undo(), 1);
                c.due("one less", x.count(5), back - i);
                c.due("THE ROUND", x.count(3), rounds - i);
                c.due("where it was", x.there(4, rounds - i), 7);
            }
            c.due("no more of " + rounds, x.undo(), -3);
            c.due("it stays", x.there(4, rounds - back), 7);
        }
    }

    private static void undoTakesBack() {
        c.by("UNDO: LUMPS, MOONS' PLACES, STRAYS, THE ROUND as ahead of the last ROUND");
        RingShepherds x = Rings.still(4);
        x.step(4, 1);
        x.lumps(4, 3, 5);
        x.lumps(3, 0, 2);
        x.moon(PLAIN, 4, 3, 1);
        x.moon(STRONG, 0, 2, 9);
        long before = x.digest();
        c.due("LOST", x.round(), 5);
        c.due("none of 5", x.there(4, -1), 0);
        c.due("in by one", x.there(2, 0), 2);
        c.due("undo", x.undo(), 1);
        c.due("LUMPS that were LOST", x.there(4, 3), 5);
        c.due("LUMPS that were moved", x.there(3, 0), 2);
        c.due("no LUMPS but them", x.count(1), 7);
        c.due("MOON 0", x.about(0, 2), 3);
        c.due("MOON 1", x.about(1, 2), 2);
        c.due("STRAYS", x.count(4), 0);
        c.due("THE ROUND", x.count(3), 0);
        c.due("all", x.digest(), before);
    }

    private static void whatIsToldLeavesThem() {
        c.by("what is told leaves them");
        RingShepherds x = Rings.rich(6, 2);
        x.step(1, 9);
        x.lumps(1, 1, 9);
        x.moon(WIDE, 1, 1, 9);
        x.told(1, 9);
        x.clear();
        Checks.type(x, "step");
        c.due("a FAULT, too", x.read(), -10);
        x.fee(0, 3);
        x.image(1);
        c.due("six may be undone", x.count(5), 6);
        for (int i = 0; i < 6; i++) c.due("undo", x.undo(), 1);
        c.due("STEP stays", x.step(1, 9), 9);
        c.due("COUNTS stay", x.told(1, 9), 9);
        c.due("MOONS stay", x.count(2), 3);
        c.due("THE TEXT stays", x.count(6), 4);
    }

    private static void lumpsToldSinceAreGone() {
        c.by("LUMPS told since are gone");
        RingShepherds x = Rings.still(4);
        x.lumps(0, 0, 1);
        x.round();
        x.lumps(0, 0, 2);
        x.lumps(1, 1, 3);
        x.round();
        x.lumps(0, 0, 4);
        x.undo();
        c.due("as ahead of ROUND 2", x.there(0, 0), 2);
        c.due("told ahead of ROUND 2", x.there(1, 1), 3);
        x.undo();
        c.due("as ahead of ROUND 1", x.there(0, 0), 1);
        c.due("told since", x.there(1, 1), 0);
        c.due("one in all", x.count(1), 1);
    }

    private static void aMoonThatCameSinceStays() {
        c.by("a MOON that came since stays where she is");
        RingShepherds x = Rings.still(12);
        x.moon(PLAIN, 1, 0, 1);
        x.round();
        x.moon(WIDE, 2, 5, 2);
        x.round();
        x.moon(DRAWING, 3, 9, 9);
        x.moon(STRONG, 4, 11, 3);
        int[] places = {2, 7, 9, 11};
        for (int moon = 0; moon < 4; moon++) c.due("MOON " + moon, x.about(moon, 2), places[moon]);
        x.undo();
        places = new int[] {1, 5, 9, 11};
        for (int moon = 0; moon < 4; moon++) c.due("behind one UNDO, MOON " + moon, x.about(moon, 2), places[moon]);
        x.undo();
        places = new int[] {0, 5, 9, 11};
        for (int moon = 0; moon < 4; moon++) {
            int[] due = {moon, moon + 1, places[moon], new int[] {1, 2, 9, 3}[moon]};
            for (int what = 0; what < 4; what++) c.due("behind both, MOON " + moon, x.about(moon, what), due[what]);
        }
        c.due("four", x.count(2), 4);
        // she goes on from there, and may be undone from there
        x.round();
        places = new int[] {1, 7, 6, 2};
        for (int moon = 0; moon < 4; moon++) c.due("on again, MOON " + moon, x.about(moon, 2), places[moon]);
        x.undo();
        places = new int[] {0, 5, 9, 11};
        for (int moon = 0; moon < 4; moon++) c.due("and back, MOON " + moon, x.about(moon, 2), places[moon]);
    }

    private static void undoAndOnAgain() {
        c.by("UNDO: as ahead of the last ROUND");
        RingShepherds x = Rings.rich(6, 4);
        RingShepherds twin = Rings.rich(6, 4);
        for (int i = 0; i < 20; i++) {
            x.round();
            x.undo();
        }
        c.due("that may be undone", x.count(5), 5);
        c.due("THE ROUND", x.count(3), twin.count(3));
        x.undo();
        twin.undo();
        x.round();
        x.round();
        x.undo();
        twin.round();
        c.due("LUMPS of all", x.count(1), twin.count(1));
        for (int lane = 0; lane < 5; lane++) {
            for (int place = 0; place < 6; place++) c.due("LUMPS", x.there(lane, place), twin.there(lane, place));
        }
        for (int moon = 0; moon < 4; moon++) c.due("a MOON's PLACE", x.about(moon, 2), twin.about(moon, 2));
    }

    private static void nothingToUndoInANewRing() {
        c.by("nothing to undo");
        RingShepherds x = Rings.rich(6, 4);
        x.ring(6);
        c.due("by ring", x.count(5), 0);
        c.due("NO", x.undo(), -3);
        x.round();
        c.due("one", x.undo(), 1);
        c.due("none behind it", x.undo(), -3);
        RingShepherds y = Rings.rich(6, 4);
        y.ring(25);
        c.due("a refused ring leaves it", y.count(5), 6);
    }

    private static void imagesOfNone() {
        c.by("It goes on from an IMAGE: 1. BAD; NO: none was kept");
        RingShepherds x = new RingShepherds();
        c.due("IMAGE 0", x.from(0), -3);
        c.due("IMAGE 1", x.from(1), -3);
        c.due("one is kept", x.image(1), 1);
        c.due("not the other", x.from(0), -3);
        c.due("it", x.from(1), 1);
        c.due("and the other", x.image(0), 1);
        c.due("it, too", x.from(0), 1);
        c.due("there is no IMAGE 2", x.image(2), -2);
        c.due("none to go on from", x.from(2), -2);
        c.due("there is no IMAGE -1", x.image(-1), -2);
        c.due("none to go on from, either", x.from(-1), -2);
        c.due("NO thrice", x.status(1), 3);
        c.due("BAD four times", x.status(0), 4);
    }

    private static void imagesKeepAll() {
        c.by("IMAGES 0, 1 keep all");
        for (int i = 0; i < 2; i++) {
            RingShepherds x = Rings.rich(24, 4);
            RingShepherds twin = Rings.rich(24, 4);
            x.image(i);
            twin.image(i);
            x.ring(4);
            x.lumps(1, 1, 1);
            x.step(2, 9);
            x.told(3, 9);
            x.moon(PLAIN, 1, 2, 3);
            for (int r = 0; r < 8; r++) x.round();
            c.due("it goes on from it", x.from(i), 1);
            c.due("all as it was", x.digest(), twin.digest());
            c.holds("and all that was ahead of it", Rings.everything(x).equals(Rings.everything(twin)));
        }
    }

    private static void imagesKeepTheirPlaces() {
        c.by("IMAGES 0, 1 keep all: P, too");
        RingShepherds x = new RingShepherds();
        x.ring(24);
        x.image(0);
        x.ring(4);
        x.image(1);
        x.from(0);
        c.due("24 PLACES", x.count(0), 24);
        c.due("the last of 24", x.lumps(0, 23, 1), 0);
        c.due("a MOON there", x.moon(PLAIN, 0, 23, 1), 0);
        x.round();
        c.due("round by 24", x.there(0, 4) + x.there(1, 4), 1);
        x.from(1);
        c.due("4 PLACES", x.count(0), 4);
        c.due("the last of 4", x.lumps(0, 3, 1), 0);
        c.due("none behind it", x.lumps(0, 4, 1), -2);
        c.due("no MOON", x.count(2), 0);
        x.round();
        c.due("round by 4", x.there(0, 0), 1);
    }

    private static void imagesLeaveOut() {
        c.by("all but them, THE TEXT, THE FRACTION and STATUS");
        RingShepherds x = Rings.still(4);
        x.lumps(4, 0, 5);
        x.moon(PLAIN, 4, 0, 0);
        x.image(0);
        x.fee(0, 1);
        Checks.type(x, "ring 7;");
        x.ring(0);
        x.undo();
        for (int i = 0; i < 4; i++) x.moon(0, 0, 0, 0);
        x.image(1);
        x.from(0);
        c.due("THE TEXT goes on", x.count(6), 7);
        c.due("THE FRACTION goes on", x.part(0), 5);
        c.due("BAD goes on", x.status(0), 1);
        c.due("NO goes on", x.status(1), 1);
        c.due("FULL goes on", x.status(2), 1);
        c.due("the other IMAGE goes on", x.from(1), 1);
        c.due("with its MOONS", x.count(2), 4);
        c.due("and THE TEXT is read", x.read(), 1);
        c.due("by its bytes", x.count(0), 7);
    }

    private static void imagesKeepWhatMayBeUndone() {
        c.by("what may be undone they keep");
        for (int rounds = 0; rounds <= 9; rounds++) {
            RingShepherds x = new RingShepherds();
            x.lumps(4, 0, 3);
            for (int i = 0; i < rounds; i++) x.round();
            x.image(1);
            for (int i = 0; i < 13; i++) x.round();
            x.from(1);
            int back = Math.min(rounds, 6);
            c.due("that may be undone", x.count(5), back);
            for (int i = 1; i <= back; i++) {
                c.due("undo", x.undo(), 1);
                c.due("where it was", x.there(4, rounds - i), 3);
            }
            c.due("no more", x.undo(), -3);
            x.from(1);
            c.due("it is kept still", x.count(5), back);
        }
    }

    private static void imagesAreApart() {
        c.by("it goes on from one");
        RingShepherds x = new RingShepherds();
        x.image(0);
        x.lumps(0, 0, 7);
        x.image(1);
        x.from(0);
        c.due("without them", x.count(1), 0);
        x.lumps(0, 0, 9);
        x.from(1);
        c.due("with 7", x.there(0, 0), 7);
        x.from(0);
        c.due("what came behind IMAGE 0 is not in it", x.there(0, 0), 0);
        x.lumps(0, 0, 2);
        x.image(0);
        x.lumps(0, 0, 3);
        x.from(0);
        c.due("kept anew", x.there(0, 0), 2);
        x.from(1);
        c.due("the other one is as it was", x.there(0, 0), 7);
    }

    private static void imagesStayWithANewRing() {
        c.by("A RING that is read .. all but IMAGES; ring, too");
        RingShepherds x = Rings.rich(6, 4);
        RingShepherds twin = Rings.rich(6, 4);
        x.ring(24);
        x.from(0);
        twin.from(0);
        List<Long> due = Rings.everything(twin);
        c.holds("IMAGE 0 and THE TEXT", Rings.everything(x).equals(due));
    }

    private static void statusCounts() {
        c.by("STATUS: BAD (0), NO (1), FULL (2). -1: another what (counts as BAD)");
        RingShepherds x = new RingShepherds();
        for (int what : new int[] {-1, 3, Rings.MIN, Rings.MAX}) c.due("another what", x.status(what), -1);
        c.due("each counts", x.status(0), 4);
        c.due("asking does not", x.status(0), 4);
        for (int i = 1; i <= 3; i++) {
            x.undo();
            c.due("NO", x.status(1), i);
        }
        for (int i = 0; i < 4; i++) x.moon(0, 0, 0, 0);
        for (int i = 1; i <= 3; i++) {
            x.moon(0, 0, 0, 0);
            c.due("FULL", x.status(2), i);
        }
        c.due("BAD is as it was", x.status(0), 4);
        c.due("NO is as it was", x.status(1), 3);
        x.ring(5);
        for (int what = 0; what < 3; what++) c.due("a new RING leaves it", x.status(what), new int[] {4, 3, 3}[what]);
    }

    private static void theFractionAtFirst() {
        c.by("THE FRACTION is 0 by 1 at first");
        RingShepherds x = new RingShepherds();
        c.due("above", x.part(0), 0);
        c.due("below", x.part(1), 1);
        c.due("another what", x.part(2), -100000);
        c.due("another one", x.part(-1), -100000);
        c.due("BAD", x.status(0), 2);
    }

    private static void theFractionStays() {
        c.by("FEE is THE FRACTION: 1");
        RingShepherds x = Rings.still(4);
        x.lumps(4, 0, 3);
        x.moon(PLAIN, 4, 0, 0);
        x.moon(PLAIN, 4, 0, 0);
        c.due("a FEE", x.fee(0, 1), 1);
        x.lumps(4, 0, 0);
        x.round();
        x.undo();
        x.ring(4);
        c.due("it stays until the next one: above", x.part(0), 3);
        c.due("below", x.part(1), 2);
        c.due("a refused one", x.fee(0, 1), -2);
        c.due("leaves it: above", x.part(0), 3);
        c.due("leaves it: below", x.part(1), 2);
        x.moon(PLAIN, 4, 0, 0);
        c.due("a FEE of nothing", x.fee(0, 1), 1);
        c.due("0", x.part(0), 0);
        c.due("by 1", x.part(1), 1);
    }

    private static void countsOfAll() {
        c.by("0 PLACES, 1 LUMPS of all, 2 MOONS, 3 THE ROUND, 4 STRAYS, 5 that may be undone, 6 bytes of THE TEXT");
        RingShepherds x = Rings.still(24);
        for (int lane = 0; lane < 5; lane++) {
            for (int place = 0; place < 24; place++) x.lumps(lane, place, 999);
        }
        c.due("all LUMPS", x.count(1), 120 * 999);
        for (int edge = 4; edge >= 1; edge--) x.moon(PLAIN, edge, 0, 1);
        for (int i = 0; i < 9; i++) x.round();
        x.type(0, 8);
        int lost = x.count(4);
        c.holds("some are LOST", lost > 0);
        int[] due = {24, 120 * 999 - lost, 4, 9, lost, 6, 8};
        for (int what = 0; what < 7; what++) c.due("count(" + what + ")", x.count(what), due[what]);
        c.due("count(-1)", x.count(-1), -2);
        c.due("count(7)", x.count(7), -2);
    }

    private static void theDigest() {
        c.by("h = 821; then h = 31 h + v for each v");
        for (int p = 4; p <= 24; p++) {
            for (int moons = 0; moons <= 4; moons++) {
                RingShepherds x = Rings.rich(p, moons);
                c.due(p + " PLACES, " + moons + " MOONS", x.digest(), Rings.digestByCalls(x));
            }
        }
        RingShepherds x = new RingShepherds();
        c.due("of a new object", x.digest(), Rings.digestByCalls(x));
        long before = x.digest();
        x.ring(3);
        x.undo();
        c.due("STATUS is not in it", x.digest(), before);
        x.image(0);
        c.due("IMAGES are not in it", x.digest(), before);
        x.type(7, 1);
        x.clear();
        x.type(8, 1);
        long of8 = x.digest();
        x.clear();
        x.type(9, 1);
        c.due("how many bytes are in it, not which", x.digest(), of8);
    }
}
