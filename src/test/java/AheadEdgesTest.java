/** The sentences of section 2 on what would come: each least and greatest number, none, like ones, and wrap-arounds. */
public final class AheadEdgesTest {
    private static final int MAX = Rings.MAX;
    private static final int PLAIN = Rings.PLAIN, WIDE = Rings.WIDE, DRAWING = Rings.DRAWING, STRONG = Rings.STRONG,
        SLEEPY = Rings.SLEEPY;

    private static final Checks c = new Checks();

    public static void main(String[] args) {
        whereInNoRoundAndInSixty();
        whereItWasLost();
        whereOfNoLump();
        howOftenMoved();
        whereIsWhatRoundsDo();
        theLastOfSixtyRounds();
        lossInNoRoundAndInSixty();
        pushesInNoRoundAndInTwelve();
        pushesWithinLanes();
        pushesOnceARound();
        pushesOfAllTogether();
        pushesNotToBe();
        movedFromNoneToTheLast();
        movedAcrossTheEnd();
        movedOfLikeOnes();
        roadNow();
        roadAtTheLastRound();
        roadOnEnd();
        roadNone();
        backOfOneAndOfAll();
        backOfAllThatGo();
        countsAtFirst();
        countsOfMost();
        takenOfNone();
        takenOfOneAtLeast();
        takenRising();
        takenAcrossRounds();
        gameOfOneAndOfSix();
        gameOfNothing();
        gameOfLikeOnes();
        feeInNoRoundAndInSixty();
        feeOfOneAndOfFour();
        feeBelowNothing();
        feeInLowestTerms();
        c.end();
    }

    private static void where(String what, RingShepherds x, int lane, int place, int k, int... due) {
        for (int i = 0; i < 3; i++) c.due(what + ", " + i, x.where(lane, place, k, i), due[i]);
    }

    private static void whereInNoRoundAndInSixty() {
        c.by("WHERE .. behind k (0 .. 60) ROUNDS");
        RingShepherds x = new RingShepherds();
        for (int edge = 0; edge < 4; edge++) x.moon(STRONG, edge, 0, 0);
        for (int lane = 0; lane < 5; lane++) {
            where("behind none it is where it is", x, lane, 0, 0, lane, 0, 0);
            where("at the last PLACE, too", x, lane, 11, 0, lane, 11, 0);
        }
        RingShepherds y = Rings.still(7);
        y.step(4, 1);
        where("59", y, 4, 0, 59, 4, 3, 0);
        where("60", y, 4, 0, 60, 4, 4, 0);
        y.moon(PLAIN, 5, 4, 0);
        where("one ROUND ahead of her", y, 4, 4, 6, 4, 3, 0);
        where("as she is by it", y, 4, 4, 7, 3, 4, 1);
        RingShepherds z = Rings.still(24);
        z.step(0, 9);
        z.step(1, 0);
        z.moon(PLAIN, 0, 0, 0);
        where("60 by 9 of 24", z, 0, 4, 60, 0, 16, 0);
        where("as it comes to 0", z, 0, 6, 2, 1, 0, 1);
        where("and stays in LANE 1", z, 0, 6, 60, 1, 0, 1);
    }

    private static void whereItWasLost() {
        c.by("the LANE (none: LOST), the PLACE (as it was LOST: where)");
        RingShepherds x = Rings.still(6);
        x.step(4, 1);
        x.moon(PLAIN, 4, 0, 0);
        where("ahead of it", x, 4, 4, 1, 4, 5, 0);
        for (int k : new int[] {2, 3, 59, 60}) where("LOST behind " + k, x, 4, 4, k, -1, 0, 1);
        where("by the first ROUND", x, 4, 5, 1, -1, 0, 1);
        RingShepherds y = Rings.still(6);
        y.step(0, 5);
        y.moon(STRONG, 1, 2, 1);
        where("not yet", y, 0, 1, 1, 0, 0, 0);
        where("beside her at 4: where it is, not she", y, 0, 1, 2, -1, 5, 1);
        where("for good", y, 0, 1, 60, -1, 5, 1);
    }

    private static void whereOfNoLump() {
        c.by("a LUMP that is in a LANE at a PLACE now: one that would be there, too");
        RingShepherds x = new RingShepherds();
        where("of none that is there", x, 2, 1, 1, 2, 4, 0);
        x.lumps(2, 1, 999);
        where("of 999", x, 2, 1, 1, 2, 4, 0);
    }

    private static void howOftenMoved() {
        c.by("how often it was moved by MOONS");
        RingShepherds x = Rings.still(4);
        x.moon(DRAWING, 2, 0, 0);
        for (int k : new int[] {0, 1, 2, 59, 60}) where("to and fro", x, 1, 0, k, k % 2 == 0 ? 1 : 2, 0, k);
        where("at another PLACE", x, 1, 1, 60, 1, 1, 0);
        x.moon(DRAWING, 2, 0, 0);
        where("twice a ROUND", x, 1, 0, 60, 1, 0, 120);
        x.moon(DRAWING, 2, 0, 0);
        x.moon(DRAWING, 2, 0, 0);
        where("four times a ROUND", x, 1, 0, 60, 1, 0, 240);
    }

    private static void whereIsWhatRoundsDo() {
        c.by("WHERE, LOSS and ROUNDS tell the same");
        for (int kind = 0; kind <= 4; kind++) {
            RingShepherds x = new RingShepherds();
            x.ring(7);
            x.moon(kind, 4, 6, 3);
            x.moon(kind, 2, 0, 9);
            x.lumps(3, 6, 5);
            int lost = 0;
            for (int k = 0; k <= 60; k++) {
                RingShepherds twin = new RingShepherds();
                twin.ring(7);
                twin.moon(kind, 4, 6, 3);
                twin.moon(kind, 2, 0, 9);
                int lane = twin.where(3, 6, k, 0);
                if (lane < 0) c.due("LOST", x.count(4), 5);
                else c.due("there", x.there(lane, twin.where(3, 6, k, 1)), 5);
                twin.lumps(3, 6, 5);
                c.due("LOSS", twin.loss(k), lost);
                lost += x.round();
            }
        }
    }

    private static void lossInNoRoundAndInSixty() {
        c.by("LOSS: how many LUMPS would be LOST in k ROUNDS");
        RingShepherds x = Rings.still(24);
        x.lumps(4, 12, 999);
        x.lumps(4, 11, 5);
        x.moon(PLAIN, 4, 0, 5);
        // by 5 of 24 she is at 12 in ROUND 12, at 11 in ROUND 7, and there again 24 ROUNDS on
        c.due("in none", x.loss(0), 0);
        c.due("in 6", x.loss(6), 0);
        c.due("in 7", x.loss(7), 5);
        c.due("in 11", x.loss(11), 5);
        c.due("in 12", x.loss(12), 1004);
        c.due("in 60", x.loss(60), 1004);
        RingShepherds y = Rings.still(4);
        for (int lane = 0; lane < 5; lane++) {
            for (int place = 0; place < 4; place++) y.lumps(lane, place, 999);
        }
        c.due("without MOONS none is", y.loss(60), 0);
        y.moon(PLAIN, 4, 0, 1);
        y.moon(PLAIN, 1, 0, 1);
        y.moon(STRONG, 2, 0, 1);
        c.due("all are", y.loss(60), 20 * 999);
        // ROUND 60, in which a SLEEPY one does nothing, and 59
        RingShepherds z = Rings.still(4);
        for (int i = 0; i < 57; i++) z.round();
        z.moon(SLEEPY, 4, 0, 0);
        z.lumps(4, 0, 3);
        c.due("behind 57", z.loss(1), 3);
        z.round();
        z.round();
        z.lumps(4, 0, 3);
        c.due("ROUND 60", z.loss(1), 0);
        c.due("ROUND 61", z.loss(2), 3);
    }

    private static void pushesInNoRoundAndInTwelve() {
        c.by("in k (0 .. 12) ROUNDS");
        RingShepherds x = Rings.still(24);
        x.lumps(4, 12, 7);
        x.moon(PLAIN, 4, 0, 1);
        c.due("in none", x.pushes(0), 0);
        c.due("in 11 she is not there yet", x.pushes(11), 0);
        c.due("in 12 she is", x.pushes(12), 7);
        RingShepherds y = Rings.still(4);
        y.lumps(2, 0, 3);
        y.moon(STRONG, 2, 0, 0);
        c.due("out to LANE 4 it is not LOST", y.pushes(1), 0);
        c.due("nor behind that", y.pushes(12), 0);
        y.moon(DRAWING, 5, 0, 0);
        c.due("LOST from LANE 4", y.loss(1), 3);
        c.due("one in is LOST, too; one out stays", y.pushes(1), 3);
        c.due("for good", y.pushes(12), 3);
    }

    private static void pushesWithinLanes() {
        c.by("in or out (LANES 0 .. 4)");
        RingShepherds x = Rings.still(4);
        x.lumps(4, 0, 3);
        x.moon(STRONG, 3, 0, 0);
        x.moon(DRAWING, 5, 0, 0);
        c.due("LOST from 4 and from 3, and none goes out from 4", x.pushes(1), -1);
        RingShepherds y = Rings.still(4);
        y.lumps(0, 0, 3);
        y.moon(STRONG, 2, 0, 0);
        y.moon(DRAWING, 0, 0, 0);
        c.due("LOST from 0 and from 1, and none goes in from 0", y.pushes(1), -1);
        RingShepherds z = Rings.still(4);
        z.lumps(4, 0, 3);
        z.lumps(0, 1, 5);
        z.moon(DRAWING, 5, 0, 0);
        z.moon(DRAWING, 0, 1, 0);
        c.due("in from 4, out from 0", z.pushes(12), 8);
    }

    private static void pushesOnceARound() {
        c.by("once a ROUND each at most");
        // LOST from LANES 2, 3 and 4 at PLACE 0
        RingShepherds x = Rings.still(12);
        x.moon(STRONG, 3, 0, 0);
        x.moon(STRONG, 0, 0, 0);
        x.moon(PLAIN, 2, 0, 0);
        x.moon(PLAIN, 4, 0, 0);
        x.lumps(4, 0, 1);
        c.due("two LANES in one ROUND can not be", x.pushes(1), -1);
        // LOST from LANE 3 at PLACES 2 to 4 and from LANE 4 at PLACE 3; all go on by 1
        RingShepherds y = Rings.still(12);
        for (int lane = 0; lane < 5; lane++) y.step(lane, 1);
        y.moon(STRONG, 3, 3, 0);
        y.moon(DRAWING, 5, 3, 0);
        y.lumps(4, 1, 4);
        c.due("not yet", y.pushes(1), 0);
        c.due("too late: LANE 3 is LOST sooner", y.pushes(2), -1);
        y.lumps(4, 1, 0);
        y.lumps(4, 0, 4);
        c.due("not yet, either", y.pushes(2), 0);
        c.due("one in each of two ROUNDS", y.pushes(3), 8);
        c.due("then it is safe", y.pushes(12), 8);
    }

    private static void pushesOfAllTogether() {
        c.by("of all LUMPS together");
        RingShepherds x = Rings.still(4);
        x.moon(PLAIN, 4, 0, 0);
        x.moon(PLAIN, 1, 1, 0);
        x.lumps(4, 0, 999);
        x.lumps(0, 1, 998);
        x.lumps(2, 2, 997);
        c.due("each of 999 and each of 998", x.pushes(12), 1997);
        x.lumps(4, 0, 0);
        c.due("each of 998", x.pushes(12), 998);
        x.lumps(0, 1, 0);
        c.due("none of 997", x.pushes(12), 0);
        c.due("none at all", new RingShepherds().pushes(12), 0);
    }

    private static void pushesNotToBe() {
        c.by("none: it can not be");
        RingShepherds x = Rings.still(4);
        x.moon(STRONG, 3, 0, 0);
        x.moon(DRAWING, 5, 0, 0);
        c.due("where no LUMP is nothing must be", x.pushes(12), 0);
        x.lumps(2, 1, 5);
        c.due("elsewhere", x.pushes(12), 0);
        x.lumps(4, 0, 1);
        c.due("one LUMP is enough", x.pushes(12), -1);
        c.due("in no ROUND it can be", x.pushes(0), 0);
    }

    private static void movedFromNoneToTheLast() {
        c.by("by how many PLACES (0 to P less 1) further on");
        for (int p : new int[] {4, 12, 24}) {
            for (int by = 0; by < p; by++) {
                RingShepherds x = Rings.still(p);
                for (int place = 0; place < p; place++) x.lumps(4, place, place == by ? 1 : 2);
                x.moon(PLAIN, 4, 0, 0);
                c.due(p + " PLACES: to where the fewest are", x.moved(0, 1), by);
            }
        }
    }

    private static void movedAcrossTheEnd() {
        c.by("further on: P is 0 again");
        RingShepherds x = Rings.still(8);
        for (int place = 0; place < 8; place++) x.lumps(4, place, 9);
        x.moon(PLAIN, 4, 7, 0);
        x.lumps(4, 0, 1);
        c.due("from the last PLACE to the first", x.moved(0, 1), 1);
        x.lumps(4, 6, 0);
        c.due("to the one behind her: all the way round", x.moved(0, 1), 7);
        RingShepherds y = Rings.still(8);
        for (int place = 0; place < 8; place++) y.lumps(4, place, 9);
        y.lumps(4, 3, 0);
        y.lumps(4, 4, 0);
        y.lumps(4, 5, 0);
        y.moon(WIDE, 4, 7, 0);
        c.due("a WIDE one, with all beside her", y.moved(0, 1), 5);
    }

    private static void movedOfLikeOnes() {
        c.by("so that LOSS in k ROUNDS is least; of like ones the least");
        RingShepherds x = Rings.still(6);
        for (int place = 0; place < 6; place++) x.lumps(4, place, 4);
        x.moon(PLAIN, 4, 2, 0);
        c.due("all are like", x.moved(0, 1), 0);
        c.due("in none all are", x.moved(0, 0), 0);
        x.lumps(4, 4, 3);
        x.lumps(4, 5, 3);
        x.lumps(4, 0, 3);
        c.due("the first of three", x.moved(0, 1), 2);
        c.due("in none all are, still", x.moved(0, 0), 0);
        c.due("in 60, too", x.moved(0, 60), 2);
        x.lumps(4, 2, 3);
        c.due("she is where it is least", x.moved(0, 60), 0);
        // a MOON that goes: what she meets in 60 ROUNDS is all, wherever she begins
        RingShepherds y = Rings.still(6);
        for (int place = 0; place < 6; place++) y.lumps(4, place, 1 + place);
        y.moon(PLAIN, 4, 0, 1);
        c.due("in 60 all are LOST", y.moved(0, 60), 0);
        c.due("in 1 she should meet PLACE 0", y.moved(0, 1), 5);
        c.due("in 5 she should not meet PLACE 5", y.moved(0, 5), 5);
    }

    private static void road(String what, RingShepherds x, int place, int k, int first, int lasts) {
        c.due(what, x.road(place, k, 0), first);
        c.due(what + ", how long", x.road(place, k, 1), lasts);
    }

    private static void roadNow() {
        c.by("ROAD: the first ROUND (0 is now)");
        RingShepherds x = new RingShepherds();
        road("nothing is there", x, 0, 0, 0, 1);
        road("nothing ever is", x, 11, 60, 0, 61);
        x.lumps(4, 11, 1);
        road("it comes behind 1", x, 0, 60, 0, 1);
        road("it comes behind 12", x, 11, 12, 1, 11);
        road("it is there now", x, 11, 0, -1, -1);
    }

    /**
     * 24 places, and 3 lumps in lane 2 at place 0 that go to lane 3 in round 23, to lane 4 in round 46 and are lost in
     * round 60; and 3 in lane 0 at place 7 that stay.
     */
    private static RingShepherds lostInRoundSixty() {
        RingShepherds x = Rings.still(24);
        x.lumps(2, 0, 3);
        x.lumps(0, 7, 3);
        x.moon(DRAWING, 3, 1, 1);
        x.moon(DRAWING, 4, 2, 1);
        x.moon(DRAWING, 5, 12, 1);
        return x;
    }

    private static void theLastOfSixtyRounds() {
        c.by("k (0 .. 60) ROUNDS: the last one counts");
        RingShepherds x = lostInRoundSixty();
        where("behind 59", x, 2, 0, 59, 4, 0, 2);
        where("behind 60", x, 2, 0, 60, -1, 0, 3);
        c.due("LOSS in 59", x.loss(59), 0);
        c.due("LOSS in 60", x.loss(60), 3);
        road("within 59", x, 0, 59, -1, -1);
        road("within 60", x, 0, 60, 60, 1);
        c.due("MOVED in 59", x.moved(2, 59), 0);
        // by 1 to 14 further on she meets it in ROUNDS 59 to 46, by 15 in 45, when it is in LANE 3
        c.due("MOVED in 60", x.moved(2, 60), 15);
        taken(x, 59);
        taken(x, 60, 7);
        for (int moon = 0; moon < 3; moon++) {
            fee(x, moon, 59, 0, 1);
            fee(x, moon, 60, 1, 1);
        }
        for (int i = 1; i < 60; i++) c.due("ROUND " + i, x.round(), 0);
        c.due("one ahead of it", x.there(4, 0), 3);
        c.due("ROUND 60", x.round(), 3);
    }

    private static void roadAtTheLastRound() {
        c.by("within k ROUNDS from now");
        for (int k = 1; k < 24; k++) {
            RingShepherds x = Rings.still(24);
            x.lumps(4, k, 1);
            x.moon(PLAIN, 4, 0, 1);
            road("one too late", x, k, k - 1, -1, -1);
            road("at the last ROUND", x, k, k, k, 1);
            road("one more", x, k, k + 1, k, 2);
        }
    }

    private static void roadOnEnd() {
        c.by("how many ROUNDS on end it is so (up to k)");
        RingShepherds x = Rings.still(6);
        x.step(3, 1);
        x.lumps(3, 0, 1);
        road("until it comes round", x, 0, 60, 1, 5);
        road("up to k, too", x, 0, 5, 1, 5);
        road("up to k", x, 0, 4, 1, 4);
        road("the first alone", x, 0, 1, 1, 1);
        road("ahead of it", x, 5, 60, 0, 5);
        x.lumps(3, 3, 1);
        road("one behind the other", x, 0, 60, 1, 2);
        // each LANE counts
        for (int lane = 0; lane < 5; lane++) {
            RingShepherds y = Rings.still(6);
            y.step(lane, 2);
            y.lumps(lane, 1, 1);
            road("LANE " + lane, y, 1, 60, 1, 2);
            road("PLACES that it never comes to", y, 0, 60, 0, 61);
            y.lumps((lane + 1) % 5, 1, 1);
            road("another LANE's stays", y, 1, 60, -1, -1);
        }
    }

    private static void roadNone() {
        c.by("ROAD: none");
        RingShepherds x = Rings.still(4);
        for (int lane = 0; lane < 5; lane++) x.lumps(lane, lane % 4, 1);
        for (int place = 0; place < 4; place++) road("shut", x, place, 60, -1, -1);
        x.lumps(3, 3, 0);
        road("open now", x, 3, 0, 0, 1);
        road("and on", x, 3, 60, 0, 61);
    }

    private static void backOfOneAndOfAll() {
        c.by("BACK: the fewest ROUNDS (1 on)");
        for (int p = 4; p <= 24; p++) {
            RingShepherds x = Rings.still(p);
            c.due("nothing goes", x.back(), 1);
            for (int step = 1; step <= 9; step++) {
                x.step(step % 5, step);
                int due = 1;
                while (due * step % p != 0) due++;
                c.due(p + " PLACES by " + step, x.back(), due);
                x.step(step % 5, 0);
                RingShepherds y = Rings.still(p);
                y.moon(step % 5, 0, 0, step);
                c.due(p + " PLACES, a MOON by " + step, y.back(), due);
            }
        }
    }

    private static void backOfAllThatGo() {
        c.by("behind which all LANES and MOONS have come round, were nothing moved (by STEPS and P)");
        RingShepherds x = new RingShepherds();
        for (int p = 4; p <= 24; p++) {
            x.ring(p);
            c.due("at first LANE 4 goes by 1", x.back(), p);
        }
        RingShepherds y = Rings.still(24);
        y.step(0, 8);
        c.due("3", y.back(), 3);
        y.step(1, 6);
        c.due("3 and 4", y.back(), 12);
        y.moon(PLAIN, 4, 0, 3);
        c.due("and 8", y.back(), 24);
        y.step(0, 0);
        y.step(1, 0);
        c.due("8 alone", y.back(), 8);
        y.lumps(4, 0, 5);
        c.due("what is LOST does not count", y.back(), 8);
        y.round();
        c.due("nor from where", y.back(), 8);
        // as many MOONS as there may be, and each of them counts
        for (int goes = 0; goes < 4; goes++) {
            RingShepherds z = Rings.still(24);
            for (int moon = 0; moon < 4; moon++) z.moon(PLAIN, 0, 0, moon == goes ? 7 : 0);
            c.due("of four MOONS number " + goes + " goes", z.back(), 24);
            z.ring(24);
            for (int lane = 0; lane < 5; lane++) z.step(lane, 0);
            for (int moon = 0; moon < 4; moon++) {
                c.due("MOONS of a RING that is gone do not count", z.back(), 1);
                z.moon(PLAIN, 0, 0, 0);
            }
            c.due("four that stay", z.back(), 1);
        }
    }

    private static void countsAtFirst() {
        c.by("COUNTS, 0 .. 9999; 0 at first");
        RingShepherds x = new RingShepherds();
        for (int lane = 0; lane < 5; lane++) {
            c.due("at first", x.told(lane, 9999 - lane), 0);
            c.due("what was told", x.told(lane, 0), 9999 - lane);
            c.due("and now", x.told(lane, 1), 0);
        }
        x.round();
        c.due("a ROUND leaves them", x.told(2, 1), 1);
        x.ring(5);
        for (int lane = 0; lane < 5; lane++) c.due("at first again", x.told(lane, 0), 0);
    }

    private static void countsOfMost() {
        c.by("COUNTS, .. 9999: what is more is not told");
        RingShepherds x = Rings.still(12);
        for (int place = 0; place < 10; place++) x.lumps(1, place, 999);
        x.lumps(1, 10, 9);
        x.lumps(1, 11, 7);
        x.told(1, 9999);
        c.due("9999 with 7 taken", x.taken(0, -1), 1);
        c.due("there", x.taken(0, 0), 111);
        x.lumps(1, 10, 10);
        c.due("10000 with 7 taken", x.taken(0, -1), 0);
    }

    private static void taken(RingShepherds x, int k, int... due) {
        c.due("how many, behind " + k, x.taken(k, -1), due.length);
        for (int i = 0; i < due.length; i++) c.due("the " + i + "-th", x.taken(k, i), due[i]);
        c.due("not so many", x.taken(k, due.length), -5);
        c.due("far from so many", x.taken(k, MAX), -5);
    }

    private static void takenOfNone() {
        c.by("how many, the i-th; -5: not so many");
        taken(new RingShepherds(), 0);
        taken(new RingShepherds(), 60);
        RingShepherds x = Rings.still(4);
        x.lumps(2, 2, 5);
        x.told(2, 5);
        taken(x, 0);
        x.told(2, 1);
        taken(x, 0);
        x.told(2, 0);
        taken(x, 0, 202);
        taken(x, 60, 202);
        x.told(3, 1);
        taken(x, 0);
    }

    private static void takenOfOneAtLeast() {
        c.by("PLACES of LANES all of whose LUMPS (1 at least) may have been taken");
        RingShepherds x = Rings.still(4);
        x.lumps(1, 0, 5);
        x.told(1, 5);
        taken(x, 0);
        x.lumps(1, 1, 1);
        taken(x, 0, 101);
        x.lumps(1, 2, 2);
        taken(x, 0);
        x.told(1, 6);
        taken(x, 0, 102);
        x.told(1, 7);
        taken(x, 0, 101);
        x.told(1, 3);
        taken(x, 0, 100);
        x.told(1, 8);
        taken(x, 0);
        // two PLACES together are not one
        x.told(1, 5);
        taken(x, 0);
    }

    private static void takenRising() {
        c.by("the i-th (100 LANE and PLACE, rising)");
        RingShepherds x = Rings.still(24);
        for (int place : new int[] {23, 0, 10, 9}) x.lumps(0, place, 7);
        x.lumps(0, 5, 8);
        x.told(0, 29);
        taken(x, 0, 0, 9, 10, 23);
        // all are LOST, so that any one may have been taken: 100 LANE and PLACE of each
        RingShepherds y = Rings.still(4);
        for (int lane = 0; lane < 5; lane++) {
            y.lumps(lane, 3, 1 + lane);
            y.lumps(lane, 0, 9 - lane);
        }
        y.moon(PLAIN, 4, 0, 1);
        y.moon(PLAIN, 1, 0, 1);
        y.moon(STRONG, 2, 0, 1);
        taken(y, 60, 0, 3, 100, 103, 200, 203, 300, 303, 400, 403);
    }

    private static void takenAcrossRounds() {
        c.by("by how many LUMPS each LANE has behind k ROUNDS .. taken now");
        RingShepherds x = Rings.still(6);
        x.step(3, 1);
        x.lumps(3, 4, 5);
        x.lumps(3, 0, 5);
        x.lumps(2, 1, 4);
        // behind 1 she has put what came from 4 to 5 into LANE 4; behind 2 she has lost it
        x.moon(PLAIN, 3, 5, 0);
        x.told(2, 4);
        x.told(3, 5);
        taken(x, 0, 300, 304);
        taken(x, 1, 304);
        x.told(3, 0);
        x.told(4, 5);
        taken(x, 1, 300);
        taken(x, 0);
        x.told(3, 5);
        x.told(2, 0);
        taken(x, 1, 201);
        x.moon(PLAIN, 4, 5, 0);
        x.told(3, 5);
        x.told(4, 0);
        x.told(2, 4);
        taken(x, 1, 304);
        x.told(3, 0);
        taken(x, 1, 300);
        c.due("now as it is now", x.there(3, 4), 5);
    }

    private static void game(RingShepherds x, int n, int ahead, int lane) {
        c.due("game(" + n + ", 0)", x.game(n, 0), ahead);
        c.due("game(" + n + ", 1)", x.game(n, 1), lane);
    }

    private static RingShepherds lanes(int... n) {
        RingShepherds x = new RingShepherds();
        for (int lane = 0; lane < 5; lane++) x.lumps(lane, 11 * lane % 12, n[lane]);
        return x;
    }

    private static void gameOfOneAndOfSix() {
        c.by("n (1 .. 6) turns in all, the farmer first");
        RingShepherds x = lanes(16, 8, 4, 2, 1);
        game(x, 1, 16, 0);
        game(x, 2, 8, 0);
        game(x, 3, 12, 0);
        game(x, 4, 10, 0);
        game(x, 5, 11, 0);
        game(x, 6, 11, 0);
        RingShepherds y = lanes(1, 2, 4, 8, 16);
        game(y, 1, 16, 4);
        game(y, 5, 11, 4);
        game(y, 6, 11, 4);
        RingShepherds z = new RingShepherds();
        z.ring(24);
        for (int place = 0; place < 24; place++) z.lumps(2, place, 999);
        game(z, 1, 24 * 999, 2);
        game(z, 6, 24 * 999, 2);
    }

    private static void gameOfNothing() {
        c.by("(that has any; its STRAYS do not count), or, if none has, nothing; none: nothing");
        RingShepherds x = new RingShepherds();
        for (int n = 1; n <= 6; n++) game(x, n, 0, -1);
        x.lumps(3, 11, 1);
        for (int n = 1; n <= 6; n++) game(x, n, 1, 3);
        x.lumps(3, 11, 0);
        for (int n = 1; n <= 6; n++) game(x, n, 0, -1);
        RingShepherds y = Rings.still(4);
        y.lumps(4, 0, 9);
        y.moon(PLAIN, 4, 0, 0);
        game(y, 1, 9, 4);
        y.round();
        game(y, 1, 0, -1);
        game(y, 6, 0, -1);
    }

    private static void gameOfLikeOnes() {
        c.by("the LANE that is taken first (of like ones the least)");
        for (int n = 1; n <= 6; n++) game(lanes(3, 3, 3, 3, 3), n, n % 2 == 0 && n < 6 ? 0 : 3, 0);
        game(lanes(0, 0, 3, 0, 3), 1, 3, 2);
        game(lanes(0, 0, 3, 0, 3), 2, 0, 2);
        game(lanes(0, 3, 2, 3, 0), 1, 3, 1);
        game(lanes(1, 3, 0, 3, 0), 2, 0, 1);
        // with all taken in the end 1 first, then 3 and 3, is as good as 3 and 3, then 1
        game(lanes(1, 3, 0, 3, 0), 3, 1, 0);
        game(lanes(3, 1, 0, 3, 0), 3, 1, 0);
        game(lanes(1, 4, 0, 3, 0), 3, 2, 1);
    }

    private static void fee(RingShepherds x, int moon, int k, long above, long below) {
        c.due("fee(" + moon + ", " + k + ")", x.fee(moon, k), 1);
        c.due("above", x.part(0), above);
        c.due("below", x.part(1), below);
    }

    private static void feeInNoRoundAndInSixty() {
        c.by("FEE of a MOON for k ROUNDS");
        RingShepherds x = Rings.still(24);
        x.lumps(4, 12, 7);
        x.moon(PLAIN, 4, 0, 5);
        x.moon(PLAIN, 4, 2, 5);
        // MOON 0 is at 12 in ROUND 12, MOON 1 in ROUND 2
        fee(x, 0, 0, 0, 1);
        fee(x, 1, 1, 0, 1);
        fee(x, 1, 2, 7, 1);
        fee(x, 0, 11, 0, 1);
        fee(x, 0, 12, 7, 2);
        fee(x, 1, 12, 7, 2);
        fee(x, 0, 60, 7, 2);
        fee(x, 1, 60, 7, 2);
    }

    private static void feeOfOneAndOfFour() {
        c.by("LOSS with just some MOONS there; over all orders in which the MOONS come");
        RingShepherds x = Rings.still(4);
        for (int lane = 0; lane < 5; lane++) {
            for (int place = 0; place < 4; place++) x.lumps(lane, place, 999);
        }
        x.moon(PLAIN, 4, 0, 1);
        fee(x, 0, 60, 4 * 999, 1);
        // any of them loses it: each is the first of n by 1 of n
        RingShepherds y = Rings.still(4);
        y.lumps(4, 0, 1);
        for (int n = 1; n <= 4; n++) {
            y.moon(PLAIN, 4, 0, 0);
            for (int moon = 0; moon < n; moon++) fee(y, moon, 1, 1, n);
        }
        // one that is by nothing adds nothing
        RingShepherds z = Rings.still(4);
        z.lumps(4, 0, 7);
        z.moon(PLAIN, 4, 0, 0);
        z.moon(PLAIN, 4, 1, 0);
        fee(z, 1, 60, 0, 1);
        fee(z, 0, 60, 7, 1);
    }

    private static void feeBelowNothing() {
        c.by("(above may be below 0)");
        RingShepherds x = Rings.still(4);
        x.lumps(4, 0, 1);
        x.moon(DRAWING, 4, 0, 0);
        x.moon(PLAIN, 4, 0, 0);
        fee(x, 0, 1, -1, 2);
        fee(x, 1, 1, 1, 2);
        x.lumps(4, 0, 4);
        fee(x, 0, 1, -2, 1);
        x.lumps(4, 0, 0);
        fee(x, 0, 1, 0, 1);
        // without the first she saves nothing: 2 more MOONS behind, of which any one loses it
        RingShepherds y = Rings.still(4);
        y.lumps(4, 0, 1);
        y.moon(DRAWING, 4, 0, 0);
        y.moon(PLAIN, 4, 0, 0);
        y.moon(PLAIN, 4, 0, 0);
        fee(y, 0, 1, -2, 3);
        fee(y, 1, 1, 1, 3);
        fee(y, 2, 1, 1, 3);
    }

    private static void feeInLowestTerms() {
        c.by("lowest terms, below above 0");
        RingShepherds x = Rings.still(4);
        for (int i = 0; i < 4; i++) x.moon(PLAIN, 4, 0, 0);
        long[][] due = {{0, 1}, {1, 4}, {1, 2}, {3, 4}, {1, 1}, {5, 4}, {3, 2}, {7, 4}, {2, 1}};
        for (int n = 0; n <= 8; n++) {
            x.lumps(4, 0, n);
            for (int moon = 0; moon < 4; moon++) fee(x, moon, 1, due[n][0], due[n][1]);
        }
        x.lumps(4, 0, 999);
        fee(x, 0, 60, 999, 4);
        // needed by twos: PLAIN at EDGE 3, then at EDGE 4, and one of either more
        RingShepherds y = Rings.still(4);
        y.lumps(3, 0, 1);
        y.moon(PLAIN, 3, 0, 0);
        y.moon(PLAIN, 4, 0, 0);
        y.moon(PLAIN, 4, 0, 0);
        fee(y, 0, 1, 2, 3);
        fee(y, 1, 1, 1, 6);
        fee(y, 2, 1, 1, 6);
    }
}
