import java.nio.charset.StandardCharsets;

/** Counts answers that are not as due. */
final class Checks {
    private int made;
    private int wrong;

    void due(String what, long got, long want) {
        made++;
        if (got != want) {
            wrong++;
            System.out.println(what + " answered " + got + ", due is " + want);
        }
    }

    void holds(String what, boolean is) {
        due(what, is ? 1 : 0, 1);
    }

    void end() {
        System.out.println(wrong == 0 ? made + " answers, all as due" : wrong + " of " + made + " answers are not as due");
        if (wrong != 0) System.exit(1);
    }

    /** Brings a text (one byte a character) to an object by as few calls as can be; answers what the last one did. */
    static int type(RingShepherds x, String text) {
        byte[] bytes = text.getBytes(StandardCharsets.ISO_8859_1);
        int answer = 0;
        for (int at = 0; at < bytes.length; at += 8) {
            int n = Math.min(8, bytes.length - at);
            long v = 0;
            for (int i = 0; i < n; i++) v = v << 8 | bytes[at + i] & 255;
            answer = x.type(v, n);
        }
        return answer;
    }

    /** The text takes the place of the one that was there and is read. */
    static int read(RingShepherds x, String text) {
        x.clear();
        type(x, text);
        return x.read();
    }
}
