import java.nio.charset.StandardCharsets;

/** Counts answers that are not as due. */
final class Checks {
    private int made;
    private int wrong;
    private String sentence = "";

    /** The sentence of the document that the next answers belong to; it is told with a wrong one. */
    void by(String sentence) {
        this.sentence = sentence + ": ";
    }

    void due(String what, long got, long want) {
        made++;
        if (got != want) {
            wrong++;
            System.out.println(sentence + what + " answered " + got + ", due is " + want);
        }
    }

    void holds(String what, boolean is) {
        due(what, is ? 1 : 0, 1);
    }

    /** P places, and all else of the ring as at first. */
    void asAtFirst(String when, RingShepherds x, int p) {
        due(when + " PLACES", x.count(0), p);
        for (int what = 1; what <= 5; what++) due(when + " count(" + what + ")", x.count(what), 0);
        for (int lane = 0; lane < 5; lane++) {
            due(when + " STEP of " + lane, x.step(lane, 5 - lane), 5 - lane);
            due(when + " COUNTS of " + lane, x.told(lane, 0), 0);
            for (int place = 0; place < p; place++) due(when + " LUMPS", x.there(lane, place), 0);
        }
    }

    void end() {
        System.out.println(wrong == 0 ? made + " answers, all as due" : wrong + " of " + made + " answers are not as due");
        if (wrong != 0) System.exit(1);
    }

    /** Brings a text (one byte a character) to an object by as few calls as can be; answers what the last one did. */
    static int type(RingShepherds x, String text) {
        byte[] bytes = text.getBytes(StandardCharsets.ISO_8859_1);
        int answer = 0;
        for (int at = 0; at < bytes.length; at += 8) {
            int n = Math.min(8, bytes.length - at);
            long v = 0;
            for (int i = 0; i < n; i++) v = v << 8 | bytes[at + i] & 255;
            answer = x.type(v, n);
        }
        return answer;
    }

    /** The text takes the place of the one that was there and is read. */
    static int read(RingShepherds x, String text) {
        x.clear();
        type(x, text);
        return x.read();
    }
}
