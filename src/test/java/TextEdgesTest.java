import java.util.List;

/** The sentences on THE TEXT: its bytes, its TOKENS, its ITEMS, each FAULT, and what a RING that is read leaves. */
public final class TextEdgesTest {
    private static final Checks c = new Checks();

    public static void main(String[] args) {
        bytesAtMost();
        theLowestBytes();
        clearOfNoneAndOfAll();
        readsAllThatIsThere();
        blanksBetween();
        words();
        figures();
        bytesThatBeginNone();
        ringFirstAndOnce();
        itemsAreEnded();
        numbersOfEachItem();
        placesByTheRingThatIsRead();
        aFifthMoon();
        aTokenOfAnotherKind();
        endsTooEarly();
        theFirstFault();
        theLongest();
        aRingThatIsRead();
        aFaultLeavesAll();
        c.end();
    }

    private static void reads(String text, int items) {
        c.due("read of '" + text + "'", Checks.read(new RingShepherds(), text), items);
    }

    private static void fault(String text, int at) {
        c.due("read of '" + text + "'", Checks.read(new RingShepherds(), text), -10 - at);
    }

    private static void bytesAtMost() {
        c.by("a TEXT (250 bytes at most)");
        RingShepherds x = new RingShepherds();
        for (int i = 1; i <= 250; i++) c.due("one by one", x.type(32, 1), i);
        c.due("one too many", x.type(32, 1), -4);
        c.due("250", x.count(6), 250);
        for (int n = 1; n <= 8; n++) {
            RingShepherds y = new RingShepherds();
            for (int i = 0; i < 30; i++) y.type(0, 8);
            for (int i = 240; i < 250 - n; i++) y.type(0, 1);
            c.due(n + " and one more do not go in", n < 8 ? y.type(0, n + 1) : y.type(0, 9), n < 8 ? -4 : -2);
            c.due("none of them came", y.count(6), 250 - n);
            c.due("just " + n + " go in", y.type(0, n), 250);
        }
    }

    private static void theLowestBytes() {
        c.by("The lowest n (1 .. 8) bytes of v, the highest of them first");
        long v = 0x7269_6e67_2032_343bL;
        for (int n = 1; n <= 8; n++) {
            RingShepherds x = new RingShepherds();
            // what is ahead of the lowest n bytes is told by another call, so that it reads only if n and order are right
            if (n < 8) c.due("the others", x.type(v >>> 8 * n, 8 - n), 8 - n);
            c.due("the lowest " + n, x.type(v, n), 8);
            c.due("ring 24; by " + n, x.read(), 1);
            c.due("P", x.count(0), 24);
        }
        RingShepherds x = new RingShepherds();
        x.type(v, 7);
        c.due("the highest is left out", x.read(), -10);
        x.clear();
        x.type(-1L << 8 | ';', 1);
        c.due("a v below 0", x.read(), -10);
        Checks.read(x, "ring 5;");
        c.due("a byte 255", x.type(-1L, 1), 8);
        c.due("is none", x.read(), -17);
    }

    private static void clearOfNoneAndOfAll() {
        c.by("THE TEXT is empty: how many it had");
        RingShepherds x = new RingShepherds();
        c.due("none", x.clear(), 0);
        x.type(0, 1);
        c.due("one", x.clear(), 1);
        c.due("it is empty", x.clear(), 0);
        for (int i = 0; i < 31; i++) x.type(0x2020_2020_2020_2020L, 8);
        x.type(0x2020L, 2);
        c.due("as many as there may be", x.clear(), 250);
        c.due("no bytes", x.count(6), 0);
        c.due("nothing is left of it", x.read(), -10);
        Checks.type(x, "ring 4;");
        c.due("it begins anew", x.read(), 1);
    }

    private static void readsAllThatIsThere() {
        c.by("THE RING is read: how many ITEMS");
        RingShepherds x = new RingShepherds();
        c.due("one", Checks.read(x, "ring 4;"), 1);
        c.due("again: THE TEXT is there still", x.read(), 1);
        Checks.type(x, "step 0 0;");
        c.due("two, with what came to it", x.read(), 2);
        c.due("read with what was read", x.step(0, 0), 0);
        Checks.type(x, "step 0 8;");
        c.due("three", x.read(), 3);
        c.due("the last one counts", x.step(0, 0), 8);
        Checks.type(x, "!");
        c.due("a FAULT", x.read(), -10 - 25);
    }

    private static void blanksBetween() {
        c.by("blanks (32) between");
        reads("ring 4;", 1);
        reads("ring4;", 1);
        reads(" ring 4;", 1);
        reads("ring 4; ", 1);
        reads("ring 4 ;", 1);
        reads("   ring   4   ;   ", 1);
        reads("ring 4;step 0 1;", 2);
        reads("ring 4;step0 1;", 2);
        reads("ring 4 ; step  0  1 ; ", 2);
        reads(" ".repeat(243) + "ring 4;", 1);
        reads("ring 4;" + " ".repeat(243), 1);
        for (int b : new int[] {9, 10, 11, 12, 13, 31, 33, 160}) {
            fault("ring" + (char) b + "4;", 4);
            fault("ring 4;" + (char) b, 7);
            fault((char) b + "ring 4;", 0);
        }
        fault("ri ng 4;", 0);
        fault("ring 1 2;", 5);
        fault("ring 5 2;", 7);
    }

    private static void words() {
        c.by("words of letters a .. z; a word that is none");
        for (String word : new String[] {"rin", "ing", "rings", "ringa", "ringz", "aring", "zring", "ringring", "gnir", "qing", "sing", "rhng", "rjng",
            "riog", "rimg", "rinf", "rinh", "a", "z", "step", "lumps", "moon"}) {
            fault(word + " 4;", 0);
        }
        for (String word : new String[] {"ste", "steps", "stepa", "stepz", "tep", "steq", "stop", "lump", "lumpss", "umps", "lumpt", "lamps",
            "moo", "moons", "oon", "moom", "noon", "stepmoon", "a", "z"}) {
            fault("ring 4;" + word + " 0 0 0 0;", 7);
        }
        for (String word : new String[] {"Ring", "RING", "rinG", "rIng"}) fault(word + " 4;", 0);
        // letters end where another byte stands
        fault("ring`4;", 4);
        fault("ring{4;", 4);
        fault("ringA4;", 4);
        fault("ringZ4;", 4);
        fault("ring" + (char) ('a' + 128) + "4;", 4);
    }

    private static void figures() {
        c.by("figures (1 to 3 are one number); a fourth figure's number");
        RingShepherds x = new RingShepherds();
        c.due("1 figure", Checks.read(x, "ring 7;"), 1);
        c.due("7", x.count(0), 7);
        c.due("2 figures", Checks.read(x, "ring 18;"), 1);
        c.due("18", x.count(0), 18);
        c.due("3 figures", Checks.read(x, "ring 009;lumps 000 008 907;step 004 009;"), 3);
        c.due("9", x.count(0), 9);
        c.due("907", x.there(0, 8), 907);
        c.due("STEP 9", x.step(4, 1), 9);
        fault("ring 0009;", 5);
        fault("ring 00000000000009;", 5);
        fault("ring 9;lumps 0000 0 0;", 13);
        fault("ring 9;lumps 0 0000 0;", 15);
        fault("ring 9;lumps 0 0 0999;", 17);
        fault("ring 9;lumps 0 0 1000;", 17);
        fault("ring 9;moon 0 0 0 0000;", 18);
        fault("ring 9;step 0000", 12);
        fault("ring 4294967300;", 5);
        fault("ring 9;step 0 4294967296;", 14);
        fault("ring /;", 5);
        fault("ring :;", 5);
        fault("ring 9/", 6);
        fault("ring 9:", 6);
        fault("ring +9;", 5);
        fault("ring -9;", 5);
        fault("ring 9.0;", 6);
    }

    private static void bytesThatBeginNone() {
        c.by("a byte that begins none");
        for (int b = 0; b < 256; b++) {
            boolean begins = b == ' ' || b == ';' || b >= '0' && b <= '9' || b >= 'a' && b <= 'z';
            if (begins) continue;
            String sign = Character.toString((char) b);
            fault(sign, 0);
            fault("ring 6;" + sign, 7);
            fault("ring 6" + sign + ";", 6);
            fault("ring 6; step " + sign, 13);
            fault("ring 6; step 0" + sign, 14);
        }
    }

    private static void ringFirstAndOnce() {
        c.by("ring P (once, first of all); ring again, anything ahead of it");
        fault("step 0 1;ring 6;", 0);
        fault("lumps 0 0 1;ring 6;", 0);
        fault("moon 0 0 0 0;ring 6;", 0);
        fault("  step 0 1;", 2);
        fault(";ring 6;", 0);
        fault("6;", 0);
        fault("6 ring 6;", 0);
        fault("ring 6;ring 6;", 7);
        fault("ring 6; ring 6;", 8);
        fault("ring 6;step 0 1;ring 6;", 16);
        fault("ring 6;ring", 7);
        fault("ring ring 6;", 5);
    }

    private static void itemsAreEnded() {
        c.by("ITEMS, each ended by ;");
        fault("ring 6 step 0 1;", 7);
        fault("ring 6;step 0 1 step 0 1;", 16);
        fault("ring 6;lumps 0 0 1 1;", 19);
        fault("ring 6;moon 0 0 0 0 0;", 20);
        fault("ring 6;step 0 1 1;", 16);
        fault("ring 6 6;", 7);
        fault("ring 6;;", 7);
        fault("ring 6; ;", 8);
        fault("ring 6;step 0 1;;", 16);
        fault("ring 6;6;", 7);
    }

    /** One number of an item: its least and its greatest are read, the first beyond each is the fault. */
    private static void number(String ahead, int least, int most, String behind) {
        int items = ahead.startsWith("ring 6;") ? 2 : 1;
        reads(ahead + least + behind, items);
        reads(ahead + most + behind, items);
        fault(ahead + (most + 1) + behind, ahead.length());
        fault(ahead + (most < 999 ? 999 : 9999) + behind, ahead.length());
        fault(ahead + "-1" + behind, ahead.length());
        if (least > 0) fault(ahead + (least - 1) + behind, ahead.length());
        if (least > 0) fault(ahead + "0" + behind, ahead.length());
    }

    private static void numbersOfEachItem() {
        c.by("ring P; step l v; lumps l p n; moon KIND EDGE PLACE STEP; a number not as told");
        number("ring ", 4, 24, ";");
        number("ring 6;step ", 0, 4, " 9;");
        number("ring 6;step 4 ", 0, 9, ";");
        number("ring 6;lumps ", 0, 4, " 5 999;");
        number("ring 6;lumps 4 ", 0, 5, " 999;");
        number("ring 6;lumps 4 5 ", 0, 999, ";");
        number("ring 6;moon ", 0, 4, " 5 5 9;");
        number("ring 6;moon 4 ", 0, 5, " 5 9;");
        number("ring 6;moon 4 5 ", 0, 5, " 9;");
        number("ring 6;moon 4 5 5 ", 0, 9, ";");
        RingShepherds x = new RingShepherds();
        c.due("the greatest of all", Checks.read(x, "ring 24;step 4 9;lumps 4 23 999;moon 4 5 23 9;"), 4);
        c.due("STEP", x.step(4, 9), 9);
        c.due("LUMPS", x.there(4, 23), 999);
        int[] greatest = {4, 5, 23, 9};
        for (int what = 0; what < 4; what++) c.due("MOON", x.about(0, what), greatest[what]);
        c.due("the least of all", Checks.read(x, "ring 4;step 0 0;lumps 0 0 1;lumps 0 0 0;moon 0 0 0 0;"), 5);
        c.due("STEP", x.step(0, 0), 0);
        c.due("LUMPS", x.count(1), 0);
        for (int what = 0; what < 4; what++) c.due("MOON", x.about(0, what), 0);
    }

    private static void placesByTheRingThatIsRead() {
        c.by("lumps l p n, moon .. PLACE: PLACES of THE RING that is read, not of the one that is there");
        RingShepherds x = new RingShepherds();
        x.ring(24);
        c.due("LUMPS beyond the new P", Checks.read(x, "ring 4;lumps 0 4 1;"), -10 - 15);
        c.due("a MOON beyond the new P", Checks.read(x, "ring 4;moon 0 0 4 0;"), -10 - 16);
        c.due("24 stay", x.count(0), 24);
        x.ring(4);
        c.due("beyond the old P", Checks.read(x, "ring 24;lumps 0 23 1;moon 0 0 23 0;"), 3);
        c.due("LUMPS", x.there(0, 23), 1);
        c.due("the MOON", x.about(0, 2), 23);
    }

    private static void aFifthMoon() {
        c.by("a 5th moon at its word");
        String four = "ring 6;moon 0 0 0 0;moon 1 1 1 1;moon 2 2 2 2;moon 3 3 3 3;";
        RingShepherds x = new RingShepherds();
        for (int i = 0; i < 4; i++) x.moon(0, 0, 0, 0);
        c.due("MOONS that are there do not count", Checks.read(x, four), 5);
        for (int moon = 0; moon < 4; moon++) {
            for (int what = 0; what < 4; what++) c.due("as they come", x.about(moon, what), moon);
        }
        fault(four + "moon 4 4 4 4;", four.length());
        fault(four + "  moon", four.length() + 2);
        fault(four + "step 0 0;moon 9 9 9 9;", four.length() + 9);
        reads(four + "step 0 0;lumps 0 0 0;", 7);
    }

    private static void aTokenOfAnotherKind() {
        c.by("the first TOKEN that can not stand there");
        fault("ring;", 4);
        fault("ring ;", 5);
        fault("ring a;", 5);
        fault("ring 6a;", 6);
        fault("ring a6;", 5);
        fault("ring 6;step;", 11);
        fault("ring 6;step ;", 12);
        fault("ring 6;step 0;", 13);
        fault("ring 6;step 0 ;", 14);
        fault("ring 6;step a 0;", 12);
        fault("ring 6;step 0 a;", 14);
        fault("ring 6;step step", 12);
        fault("ring 6;lumps;", 12);
        fault("ring 6;lumps 0;", 14);
        fault("ring 6;lumps 0 0;", 16);
        fault("ring 6;lumps 0 0 x;", 17);
        fault("ring 6;moon;", 11);
        fault("ring 6;moon 0;", 13);
        fault("ring 6;moon 0 0;", 15);
        fault("ring 6;moon 0 0 0;", 17);
        fault("ring 6;moon 0 0 0 y;", 18);
        fault("ring 6;moon 0 0 0 0 z", 20);
    }

    private static void endsTooEarly() {
        c.by("the TEXT's length, if it ends too early (an empty one, too)");
        c.due("of a new object", new RingShepherds().read(), -10);
        fault("", 0);
        fault(" ", 1);
        fault(" ".repeat(250), 250);
        for (String whole : new String[] {"ring 6;", "ring 6;step 0 1;", "ring 6;lumps 0 0 1;", "ring 6;moon 0 0 0 0;"}) {
            int last = whole.indexOf(';') < whole.length() - 1 ? 7 : 0;
            int word = whole.indexOf(' ', last);
            // behind the whole word each beginning is too short; within it the word is none
            for (int n = word; n < whole.length(); n++) fault(whole.substring(0, n), n);
            for (int n = word; n < whole.length(); n++) fault(whole.substring(0, n) + "   ", n + 3);
            for (int n = last + 1; n < word; n++) fault(whole.substring(0, n), last);
        }
    }

    private static void theFirstFault() {
        c.by("the first TOKEN");
        fault("ring 3;step 9 9;", 5);
        fault("ring 6;step 9 99;", 12);
        fault("ring 6;step 0 99", 14);
        fault("ring 6;lumps 9 9 9999;", 13);
        fault("ring 6;moon 9 9 9 9", 12);
        fault("ring 6;step 0 1;bad bad;", 16);
        fault("ring 6;step 0 1 bad bad;", 16);
        fault("! ring 6;", 0);
    }

    private static void theLongest() {
        c.by("a TEXT (250 bytes at most) of ITEMS");
        StringBuilder s = new StringBuilder("ring 24;");
        while (s.length() + 8 <= 250) s.append("step0 1;");
        s.append("  ");
        c.due("bytes", s.length(), 250);
        reads(s.toString(), 31);
        fault(s.substring(0, 249) + "x", 249);
        fault(s.substring(0, 247) + "   ", 250);
        fault("ring 4;" + "a".repeat(243), 7);
        fault("ring " + "4".repeat(245), 5);
        fault(" ".repeat(246) + "ring", 250);
        fault(" ".repeat(249) + "r", 249);
    }

    private static void aRingThatIsRead() {
        c.by("A RING that is read takes the place of all but IMAGES, THE TEXT, THE FRACTION, STATUS");
        RingShepherds x = Rings.rich(6, 4);
        RingShepherds twin = Rings.rich(6, 4);
        long above = x.part(0);
        long below = x.part(1);
        c.due("ITEMS", x.read(), 4);
        int[] count = {9, 77, 1, 0, 0, 0, 250};
        for (int what = 0; what < 7; what++) c.due("count(" + what + ")", x.count(what), count[what]);
        int[] steps = {5, 4, 8, 2, 1};
        for (int lane = 0; lane < 5; lane++) {
            c.due("STEP of " + lane, x.step(lane, steps[lane]), steps[lane]);
            c.due("COUNTS of " + lane, x.told(lane, 0), 0);
            for (int place = 0; place < 9; place++) {
                c.due("LUMPS", x.there(lane, place), lane == 1 && place == 4 ? 77 : 0);
            }
        }
        int[] moon = {3, 2, 8, 6};
        for (int what = 0; what < 4; what++) c.due("her " + what, x.about(0, what), moon[what]);
        c.due("no other MOON", x.about(1, 0), -2);
        c.due("above", x.part(0), above);
        c.due("below", x.part(1), below);
        c.due("nothing to undo", x.undo(), -3);
        c.due("BAD", x.status(0), twin.status(0) + 1);
        c.due("NO", x.status(1), twin.status(1) + 1);
        c.due("FULL", x.status(2), twin.status(2));
        c.due("IMAGE 1 is not kept", x.from(1), -3);
        x.from(0);
        twin.from(0);
        List<Long> left = Rings.everything(twin);
        c.holds("IMAGE 0 and THE TEXT stay", Rings.everything(x).equals(left));
    }

    private static void aFaultLeavesAll() {
        c.by("-10 less the FAULT: all stays");
        for (String end : new String[] {"x", "ring 4;", "step 0 1", "moon 0 0 9 0;", "lumps 1 4 1000;"}) {
            RingShepherds x = Rings.rich(6, 4);
            RingShepherds twin = Rings.rich(6, 4);
            String text = "ring 9;step 2 3;lumps 0 8 5;moon 0 0 0 0;" + end;
            x.clear();
            twin.clear();
            Checks.type(x, text);
            Checks.type(twin, text);
            c.holds("a FAULT in it", x.read() <= -10 - 41);
            for (int what = 0; what < 3; what++) c.due("STATUS", x.status(what), twin.status(what));
            c.holds("all stays", Rings.everything(x).equals(Rings.everything(twin)));
            // nothing of the RING that was not read is left for the next one
            c.due("the next RING", Checks.read(x, "ring 9;"), 1);
            c.due("has no LUMPS", x.count(1), 0);
            c.due("no MOON", x.count(2), 0);
            c.due("STEPS as at first", x.step(2, 3), 3);
        }
    }
}
