import java.nio.charset.StandardCharsets;
import java.util.ArrayList;
import java.util.List;
import java.util.Random;

/** Runs of calls by chance, from fixed seeds, on the class and on the Model: every answer and every digest must agree. */
public final class ModelTest {
    private static final int RUNS = 1200;
    private static final int CALLS = 120;
    private static final int[] EDGES = {Integer.MIN_VALUE, -1000000, -11, -10, -3, -2, -1, 3, 4, 5, 6, 7, 9, 10, 11, 12, 13,
        23, 24, 25, 60, 61, 250, 999, 1000, 9999, 10000, 1 << 24, Integer.MAX_VALUE};
    private static final String[] WORDS = {"ring", "step", "lumps", "moon", "rings", "lump", "a", "moonmoon"};

    private final Random random;
    private final RingShepherds x = new RingShepherds();
    private final Model m = new Model();
    private final List<String> log = new ArrayList<>();
    private final boolean crowded;

    private ModelTest(long seed) {
        random = new Random(seed);
        crowded = random.nextBoolean();
    }

    public static void main(String[] args) {
        int wrong = 0;
        for (int run = 0; run < RUNS && wrong < 5; run++) {
            if (!new ModelTest(run).agrees(run)) wrong++;
        }
        System.out.println(wrong == 0 ? "the class and the model agree" : "the class and the model do not agree");
        if (wrong != 0) System.exit(1);
    }

    private boolean agrees(int run) {
        for (int call = 0; call < CALLS; call++) {
            if (!step() || !same("digest()", x.digest(), m.digest())) {
                System.out.println("run " + run + ":");
                for (String line : log) System.out.println("  " + line);
                return false;
            }
        }
        for (int what = 0; what < 3; what++) {
            if (!same("status(" + what + ")", x.status(what), m.status(what))) {
                System.out.println("run " + run + ": " + log.get(log.size() - 1));
                return false;
            }
        }
        return true;
    }

    private boolean same(String call, long got, long due) {
        log.add(call + " answered " + got + (got == due ? "" : ", due is " + due));
        return got == due;
    }

    /** A number as told in most cases, else one at or beyond an edge. */
    private int n(int least, int most) {
        if (random.nextInt(40) == 0) return EDGES[random.nextInt(EDGES.length)];
        if (random.nextInt(60) == 0) return most + 1;
        if (random.nextInt(60) == 0) return least - 1;
        return most < least ? least : least + random.nextInt(most - least + 1);
    }

    private int place() {
        return n(0, m.count(0) - 1);
    }

    private int heap() {
        return random.nextInt(4) == 0 ? n(0, 999) : n(0, crowded ? 3 : 9);
    }

    private int rounds() {
        return random.nextBoolean() ? n(0, 60) : n(0, 6);
    }

    private boolean step() {
        int a;
        int b;
        int c;
        int d;
        switch (random.nextInt(random.nextInt(3) == 0 ? 34 : 12)) {
            case 0: case 1: case 2:
                a = n(0, 4); b = place(); c = heap();
                return same("lumps(" + a + ", " + b + ", " + c + ")", x.lumps(a, b, c), m.lumps(a, b, c));
            case 3:
                a = n(0, 4); b = n(0, 5); c = place(); d = n(0, 9);
                return same("moon(" + a + ", " + b + ", " + c + ", " + d + ")", x.moon(a, b, c, d), m.moon(a, b, c, d));
            case 4: case 5:
                return same("round()", x.round(), m.round());
            case 6:
                return same("undo()", x.undo(), m.undo());
            case 7:
                a = n(0, 4); b = place(); c = rounds(); d = n(0, 2);
                return same("where(" + a + ", " + b + ", " + c + ", " + d + ")", x.where(a, b, c, d), m.where(a, b, c, d));
            case 8:
                a = n(0, 12);
                return same("pushes(" + a + ")", x.pushes(a), m.pushes(a));
            case 9:
                a = rounds();
                return same("loss(" + a + ")", x.loss(a), m.loss(a));
            case 10:
                a = n(1, 6); b = n(0, 1);
                return same("game(" + a + ", " + b + ")", x.game(a, b), m.game(a, b));
            case 11:
                a = n(0, 4); b = n(0, 9);
                return same("step(" + a + ", " + b + ")", x.step(a, b), m.step(a, b));
            case 12:
                a = n(0, m.count(2) - 1); b = rounds();
                return same("moved(" + a + ", " + b + ")", x.moved(a, b), m.moved(a, b));
            case 13: case 14:
                a = n(0, m.count(2) - 1); b = rounds();
                return same("fee(" + a + ", " + b + ")", x.fee(a, b), m.fee(a, b));
            case 15:
                a = n(0, 1);
                return same("part(" + a + ")", x.part(a), m.part(a));
            case 16:
                a = place(); b = rounds(); c = n(0, 1);
                return same("road(" + a + ", " + b + ", " + c + ")", x.road(a, b, c), m.road(a, b, c));
            case 17:
                return same("back()", x.back(), m.back());
            case 18: case 19: case 20: case 21:
                return takenAway();
            case 22:
                a = n(0, 4); b = n(0, 9999);
                return same("told(" + a + ", " + b + ")", x.told(a, b), m.told(a, b));
            case 23:
                a = rounds(); b = n(-1, 3);
                return same("taken(" + a + ", " + b + ")", x.taken(a, b), m.taken(a, b));
            case 24:
                a = n(0, 1);
                return same("image(" + a + ")", x.image(a), m.image(a));
            case 25:
                a = n(0, 1);
                return same("from(" + a + ")", x.from(a), m.from(a));
            case 26:
                a = n(0, 2);
                return same("status(" + a + ")", x.status(a), m.status(a));
            case 27:
                a = n(0, 6);
                return same("count(" + a + ")", x.count(a), m.count(a));
            case 28:
                a = n(0, m.count(2) - 1); b = n(0, 3);
                return same("about(" + a + ", " + b + ")", x.about(a, b), m.about(a, b));
            case 29:
                a = n(0, 4); b = n(-1, m.count(0) - 1);
                return same("there(" + a + ", " + b + ")", x.there(a, b), m.there(a, b));
            case 30: case 31:
                return told();
            case 32:
                a = n(1, 8);
                long v = random.nextLong();
                return same("type(" + v + ", " + a + ")", x.type(v, a), m.type(v, a));
            default:
                if (random.nextInt(3) != 0) return same("undo()", x.undo(), m.undo());
                a = random.nextBoolean() ? n(4, 8) : n(4, 24);
                return same("ring(" + a + ")", x.ring(a), m.ring(a));
        }
    }

    /** Counts are told as they would be if one heap had been taken, so that something is found. */
    private boolean takenAway() {
        int k = random.nextInt(8);
        int lane = random.nextInt(5);
        int place = random.nextInt(m.count(0));
        int[] left = new int[5];
        boolean spare = random.nextInt(3) == 0;
        for (int l = 0; l < 5; l++) {
            for (int p = 0; p < m.count(0); p++) {
                int end = m.where(l, p, k, 0);
                if (end >= 0 && (spare || l != lane || p != place)) left[end] += m.there(l, p);
            }
        }
        for (int l = 0; l < 5; l++) {
            int n = Math.min(left[l], 9999);
            if (!same("told(" + l + ", " + n + ")", x.told(l, n), m.told(l, n))) return false;
        }
        for (int i = -1; i < 4; i++) {
            if (!same("taken(" + k + ", " + i + ")", x.taken(k, i), m.taken(k, i))) return false;
        }
        return true;
    }

    private boolean told() {
        if (random.nextInt(4) != 0 && !same("clear()", x.clear(), m.clear())) return false;
        byte[] bytes = text().getBytes(StandardCharsets.ISO_8859_1);
        for (int at = 0; at < bytes.length; at += 8) {
            int n = Math.min(8, bytes.length - at);
            long v = random.nextInt(2) - 1;
            for (int i = 0; i < n; i++) v = v << 8 | bytes[at + i] & 255;
            if (!same("type(" + v + ", " + n + ")", x.type(v, n), m.type(v, n))) return false;
        }
        return same("read() of " + new String(bytes, StandardCharsets.ISO_8859_1), x.read(), m.read());
    }

    private String text() {
        StringBuilder s = new StringBuilder();
        int p = 4 + random.nextInt(random.nextBoolean() ? 5 : 21);
        if (random.nextInt(30) != 0) s.append("ring").append(gap()).append(number(p)).append(end());
        int items = random.nextInt(14);
        for (int i = 0; i < items; i++) {
            switch (random.nextInt(8)) {
                case 0: case 1:
                    s.append("step").append(gap()).append(to(4)).append(' ').append(to(9)).append(end());
                    break;
                case 2: case 3: case 4:
                    s.append("lumps").append(gap()).append(to(4)).append(' ').append(to(p - 1)).append("  ")
                        .append(to(999)).append(end());
                    break;
                default:
                    s.append("moon").append(gap()).append(to(4)).append(' ').append(to(5)).append(' ').append(to(p - 1))
                        .append(' ').append(to(9)).append(end());
            }
        }
        return random.nextInt(3) == 0 ? spoilt(s) : s.toString();
    }

    private String spoilt(StringBuilder s) {
        int at = random.nextInt(s.length() + 1);
        switch (random.nextInt(6)) {
            case 0:
                s.setLength(at);
                break;
            case 1:
                s.insert(at, (char) random.nextInt(256));
                break;
            case 2:
                s.insert(at, ";");
                break;
            case 3:
                s.insert(at, WORDS[random.nextInt(WORDS.length)]);
                break;
            case 4:
                s.insert(at, random.nextInt(2000));
                break;
            default:
                if (at < s.length()) s.deleteCharAt(at);
        }
        return s.toString();
    }

    private String gap() {
        return random.nextInt(4) == 0 ? "" : " ".repeat(1 + random.nextInt(2));
    }

    private String end() {
        return gap() + ";" + gap();
    }

    private String to(int most) {
        return number(random.nextInt(25) == 0 ? most + 1 : random.nextInt(most + 1));
    }

    private String number(int n) {
        return random.nextInt(6) == 0 ? String.format("%0" + (1 + random.nextInt(4)) + "d", n) : Integer.toString(n);
    }
}
