import java.math.BigInteger;
import java.nio.charset.StandardCharsets;
import java.util.ArrayDeque;
import java.util.ArrayList;
import java.util.Collections;
import java.util.Deque;
import java.util.HashMap;
import java.util.List;
import java.util.Map;
import java.util.TreeMap;
import java.util.regex.Matcher;
import java.util.regex.Pattern;

/**
 * The document once more, written down slowly and by other ways than the class: heaps of lumps are followed one by
 * one, orders of moons are listed, pushes are searched forwards, a text is cut by a regular expression.
 */
final class Model {
    private record Moon(int kind, int edge, int place, int step) { }

    /** Lumps that lie together and therefore stay together. */
    private record Heap(int lane, int place, int n, int touched) {
        boolean lost() {
            return lane < 0 || lane > 4;
        }
    }

    private record Fault(int at) { }

    /** All that an image keeps but the past. */
    private static final class State {
        int p = 12;
        int[] steps = {5, 4, 3, 2, 1};
        int[] counts = new int[5];
        Map<Integer, Integer> lumps = new TreeMap<>();
        List<Moon> moons = new ArrayList<>();
        int round;
        int strays;

        State copy() {
            State s = new State();
            s.p = p;
            s.steps = steps.clone();
            s.counts = counts.clone();
            s.lumps = new TreeMap<>(lumps);
            s.moons = new ArrayList<>(moons);
            s.round = round;
            s.strays = strays;
            return s;
        }

        int at(int lane, int place) {
            return lumps.getOrDefault(100 * lane + place, 0);
        }

        int inLane(int lane) {
            int sum = 0;
            for (int place = 0; place < p; place++) sum += at(lane, place);
            return sum;
        }
    }

    private State now = new State();
    private Deque<State> past = new ArrayDeque<>();
    private final State[] images = new State[2];
    private final List<Deque<State>> imagePasts = new ArrayList<>(List.of(new ArrayDeque<>(), new ArrayDeque<>()));
    private String text = "";
    private long above = 0;
    private long below = 1;
    private final int[] refused = new int[3];

    private int bad(int answer) {
        refused[0]++;
        return answer;
    }

    private static boolean in(int n, int least, int most) {
        return least <= n && n <= most;
    }

    // ---- rounds

    private static Heap go(State s, Heap h, int round, int since, List<Moon> moons) {
        if (h.lost()) return h;
        int place = (h.place + s.steps[h.lane]) % s.p;
        int lane = h.lane;
        int touched = h.touched;
        for (Moon m : moons) {
            int at = (m.place + m.step * since) % s.p;
            boolean near = place == at;
            if (m.kind == 1 || m.kind == 3) near |= place == (at + 1) % s.p || (place + 1) % s.p == at;
            if (!near || m.kind == 4 && round % 3 == 0) continue;
            if (lane != m.edge && lane != m.edge - 1) continue;
            int out = lane == m.edge ? 1 : -1;
            if (m.kind == 2) out = -out;
            if (m.kind == 3) out *= 2;
            lane += out;
            touched++;
            if (lane < 0 || lane > 4) break;
        }
        return new Heap(lane, place, h.n, touched);
    }

    private static List<Heap> run(State s, List<Heap> heaps, int k, List<Moon> moons) {
        List<Heap> list = heaps;
        for (int r = 1; r <= k; r++) {
            List<Heap> next = new ArrayList<>();
            for (Heap h : list) next.add(go(s, h, s.round + r, r, moons));
            list = next;
        }
        return list;
    }

    private static List<Heap> heaps(State s) {
        List<Heap> list = new ArrayList<>();
        s.lumps.forEach((key, n) -> {
            if (n > 0) list.add(new Heap(key / 100, key % 100, n, 0));
        });
        return list;
    }

    private static int lost(List<Heap> heaps) {
        return heaps.stream().filter(Heap::lost).mapToInt(Heap::n).sum();
    }

    int round() {
        past.addLast(now.copy());
        if (past.size() > 6) past.removeFirst();
        List<Heap> after = run(now, heaps(now), 1, now.moons);
        now.lumps.clear();
        for (Heap h : after) if (!h.lost()) now.lumps.merge(100 * h.lane + h.place, h.n, Integer::sum);
        List<Moon> moons = new ArrayList<>();
        for (Moon m : now.moons) moons.add(new Moon(m.kind, m.edge, (m.place + m.step) % now.p, m.step));
        now.moons = moons;
        now.round++;
        now.strays += lost(after);
        return lost(after);
    }

    int undo() {
        if (past.isEmpty()) {
            refused[1]++;
            return -3;
        }
        State s = past.removeLast();
        now.lumps = s.lumps;
        now.round = s.round;
        now.strays = s.strays;
        for (int i = 0; i < s.moons.size(); i++) {
            Moon m = now.moons.get(i);
            now.moons.set(i, new Moon(m.kind, m.edge, s.moons.get(i).place, m.step));
        }
        return 1;
    }

    // ---- a ring

    int ring(int p) {
        if (!in(p, 4, 24)) return bad(-2);
        int was = now.p;
        now = new State();
        now.p = p;
        past.clear();
        return was;
    }

    int step(int lane, int v) {
        if (!in(lane, 0, 4) || !in(v, 0, 9)) return bad(-2);
        int was = now.steps[lane];
        now.steps[lane] = v;
        return was;
    }

    int lumps(int lane, int place, int n) {
        if (!in(lane, 0, 4) || !in(place, 0, now.p - 1) || !in(n, 0, 999)) return bad(-2);
        int was = now.at(lane, place);
        now.lumps.put(100 * lane + place, n);
        return was;
    }

    int moon(int kind, int edge, int place, int step) {
        if (!in(kind, 0, 4) || !in(edge, 0, 5) || !in(place, 0, now.p - 1) || !in(step, 0, 9)) return bad(-2);
        if (now.moons.size() == 4) {
            refused[2]++;
            return -4;
        }
        now.moons.add(new Moon(kind, edge, place, step));
        return now.moons.size() - 1;
    }

    int type(long v, int n) {
        if (!in(n, 1, 8)) return bad(-2);
        if (text.length() + n > 250) {
            refused[2]++;
            return -4;
        }
        byte[] all = BigInteger.valueOf(v).and(BigInteger.ONE.shiftLeft(64).subtract(BigInteger.ONE))
                .or(BigInteger.ONE.shiftLeft(64)).toByteArray();
        text += new String(all, all.length - n, n, StandardCharsets.ISO_8859_1);
        return text.length();
    }

    int clear() {
        int had = text.length();
        text = "";
        return had;
    }

    int read() {
        State s = new State();
        Object answer = parse(text, s);
        if (answer instanceof Fault f) return -10 - f.at;
        now = s;
        past.clear();
        return (Integer) answer;
    }

    private static final Pattern TOKEN = Pattern.compile("[a-z]+|[0-9]+|;|[^ ]", Pattern.DOTALL);

    private static Object parse(String text, State s) {
        List<String> tokens = new ArrayList<>();
        List<Integer> starts = new ArrayList<>();
        Matcher m = TOKEN.matcher(text);
        while (m.find()) {
            tokens.add(m.group());
            starts.add(m.start());
        }
        starts.add(text.length());
        Map<String, int[]> most = new HashMap<>();
        most.put("ring", new int[] {24});
        int items = 0;
        int i = 0;
        do {
            if (i == tokens.size()) return new Fault(text.length());
            String word = tokens.get(i);
            if (!most.containsKey(word) || word.equals("moon") && s.moons.size() == 4) return new Fault(starts.get(i));
            int[] limits = most.get(word);
            int[] given = new int[limits.length];
            for (int j = 0; j < limits.length; j++) {
                i++;
                if (i == tokens.size()) return new Fault(text.length());
                String t = tokens.get(i);
                if (!t.matches("[0-9]{1,3}") || Integer.parseInt(t) > limits[j]) return new Fault(starts.get(i));
                given[j] = Integer.parseInt(t);
                if (word.equals("ring") && given[j] < 4) return new Fault(starts.get(i));
            }
            i++;
            if (i == tokens.size()) return new Fault(text.length());
            if (!tokens.get(i).equals(";")) return new Fault(starts.get(i));
            i++;
            items++;
            switch (word) {
                case "ring" -> {
                    s.p = given[0];
                    most.clear();
                    most.put("step", new int[] {4, 9});
                    most.put("lumps", new int[] {4, s.p - 1, 999});
                    most.put("moon", new int[] {4, 5, s.p - 1, 9});
                }
                case "step" -> s.steps[given[0]] = given[1];
                case "lumps" -> s.lumps.put(100 * given[0] + given[1], given[2]);
                default -> s.moons.add(new Moon(given[0], given[1], given[2], given[3]));
            }
        } while (i < tokens.size());
        return items;
    }

    int there(int lane, int place) {
        if (!in(lane, 0, 4) || !in(place, -1, now.p - 1)) return bad(-10);
        return place == -1 ? now.inLane(lane) : now.at(lane, place);
    }

    private boolean isMoon(int moon) {
        return in(moon, 0, now.moons.size() - 1);
    }

    int about(int moon, int what) {
        if (!isMoon(moon) || !in(what, 0, 3)) return bad(-2);
        Moon m = now.moons.get(moon);
        return List.of(m.kind, m.edge, m.place, m.step).get(what);
    }

    // ---- what comes

    int where(int lane, int place, int k, int what) {
        if (!in(lane, 0, 4) || !in(place, 0, now.p - 1) || !in(k, 0, 60) || !in(what, 0, 2)) return bad(-10);
        Heap h = run(now, List.of(new Heap(lane, place, 1, 0)), k, now.moons).get(0);
        return what == 0 ? h.lost() ? -1 : h.lane : what == 1 ? h.place : h.touched;
    }

    private int lossWith(int k, List<Moon> moons) {
        return lost(run(now, heaps(now), k, moons));
    }

    int loss(int k) {
        return in(k, 0, 60) ? lossWith(k, now.moons) : bad(-2);
    }

    int pushes(int k) {
        if (!in(k, 0, 12)) return bad(-2);
        int sum = 0;
        for (Heap h : heaps(now)) {
            Map<Integer, Integer> reached = new HashMap<>(Map.of(100 * h.lane + h.place, 0));
            for (int r = 1; r <= k; r++) {
                Map<Integer, Integer> next = new HashMap<>();
                for (Map.Entry<Integer, Integer> e : reached.entrySet()) {
                    for (int push = -1; push <= 1; push++) {
                        int lane = e.getKey() / 100 + push;
                        if (!in(lane, 0, 4)) continue;
                        Heap g = go(now, new Heap(lane, e.getKey() % 100, 1, 0), now.round + r, r, now.moons);
                        if (!g.lost()) next.merge(100 * g.lane + g.place, e.getValue() + Math.abs(push), Math::min);
                    }
                }
                reached = next;
            }
            if (reached.isEmpty()) return -1;
            sum += h.n * Collections.min(reached.values());
        }
        return sum;
    }

    int moved(int moon, int k) {
        if (!isMoon(moon) || !in(k, 0, 60)) return bad(-2);
        TreeMap<Integer, Integer> byLoss = new TreeMap<>();
        for (int d = 0; d < now.p; d++) {
            List<Moon> moons = new ArrayList<>(now.moons);
            Moon m = moons.get(moon);
            moons.set(moon, new Moon(m.kind, m.edge, (m.place + d) % now.p, m.step));
            byLoss.putIfAbsent(lossWith(k, moons), d);
        }
        return byLoss.firstEntry().getValue();
    }

    int road(int place, int k, int what) {
        if (!in(place, 0, now.p - 1) || !in(k, 0, 60) || !in(what, 0, 1)) return bad(-10);
        StringBuilder open = new StringBuilder();
        for (int r = 0; r <= k; r++) {
            boolean any = run(now, heaps(now), r, now.moons).stream().anyMatch(h -> !h.lost() && h.place == place);
            open.append(any ? 'x' : 'o');
        }
        Matcher m = Pattern.compile("o+").matcher(open);
        if (!m.find()) return -1;
        return what == 0 ? m.start() : m.end() - m.start();
    }

    int back() {
        BigInteger p = BigInteger.valueOf(now.p);
        BigInteger all = BigInteger.ONE;
        List<Integer> steps = new ArrayList<>();
        for (int v : now.steps) steps.add(v);
        for (Moon m : now.moons) steps.add(m.step);
        for (int v : steps) {
            BigInteger own = p.divide(p.gcd(BigInteger.valueOf(v)));
            all = all.multiply(own).divide(all.gcd(own));
        }
        return all.intValueExact();
    }

    int told(int lane, int n) {
        if (!in(lane, 0, 4) || !in(n, 0, 9999)) return bad(-2);
        int was = now.counts[lane];
        now.counts[lane] = n;
        return was;
    }

    int taken(int k, int i) {
        if (!in(k, 0, 60) || i < -1) return bad(-10);
        List<Integer> found = new ArrayList<>();
        for (Heap h : heaps(now)) {
            State s = now.copy();
            s.lumps.remove(100 * h.lane + h.place);
            int[] left = new int[5];
            for (Heap g : run(s, heaps(s), k, s.moons)) if (!g.lost()) left[g.lane] += g.n;
            if (java.util.Arrays.equals(left, now.counts)) found.add(100 * h.lane + h.place);
        }
        if (i == -1) return found.size();
        return i < found.size() ? found.get(i) : -5;
    }

    /** What the farmer is ahead by, and the lane that is taken first. */
    private static int[] play(Map<Integer, Integer> lanes, int turns, boolean farmer) {
        if (turns == 0 || lanes.isEmpty()) return new int[] {0, -1};
        int[] best = null;
        for (int lane : lanes.keySet()) {
            Map<Integer, Integer> rest = new TreeMap<>(lanes);
            int n = rest.remove(lane);
            int ahead = play(rest, turns - 1, !farmer)[0] + (farmer ? n : -n);
            if (best == null || (farmer ? ahead > best[0] : ahead < best[0])) best = new int[] {ahead, lane};
        }
        return best;
    }

    int game(int n, int what) {
        if (!in(n, 1, 6) || !in(what, 0, 1)) return bad(-100000);
        Map<Integer, Integer> lanes = new TreeMap<>();
        for (int lane = 0; lane < 5; lane++) if (now.inLane(lane) > 0) lanes.put(lane, now.inLane(lane));
        return play(lanes, n, true)[what];
    }

    private static void orders(List<Integer> left, List<Integer> order, List<List<Integer>> all) {
        if (left.isEmpty()) all.add(new ArrayList<>(order));
        for (Integer next : left) {
            List<Integer> rest = new ArrayList<>(left);
            rest.remove(next);
            order.add(next);
            orders(rest, order, all);
            order.remove(order.size() - 1);
        }
    }

    private int lossWithJust(List<Integer> numbers, int k) {
        List<Moon> moons = new ArrayList<>();
        for (int i = 0; i < now.moons.size(); i++) if (numbers.contains(i)) moons.add(now.moons.get(i));
        return lossWith(k, moons);
    }

    int fee(int moon, int k) {
        if (!isMoon(moon) || !in(k, 0, 60)) return bad(-2);
        List<Integer> numbers = new ArrayList<>();
        for (int i = 0; i < now.moons.size(); i++) numbers.add(i);
        List<List<Integer>> all = new ArrayList<>();
        orders(numbers, new ArrayList<>(), all);
        Map<List<Integer>, Integer> known = new HashMap<>();
        BigInteger sum = BigInteger.ZERO;
        for (List<Integer> order : all) {
            int at = order.indexOf(moon);
            List<Integer> with = new ArrayList<>(order.subList(0, at + 1));
            List<Integer> without = new ArrayList<>(order.subList(0, at));
            Collections.sort(with);
            Collections.sort(without);
            int a = known.computeIfAbsent(with, x -> lossWithJust(x, k));
            int b = known.computeIfAbsent(without, x -> lossWithJust(x, k));
            sum = sum.add(BigInteger.valueOf(a - b));
        }
        BigInteger parts = BigInteger.valueOf(all.size());
        BigInteger common = sum.gcd(parts);
        above = sum.divide(common).longValueExact();
        below = parts.divide(common).longValueExact();
        return 1;
    }

    // ---- what there is

    long part(int what) {
        return what == 0 ? above : what == 1 ? below : bad(-100000);
    }

    int image(int i) {
        if (!in(i, 0, 1)) return bad(-2);
        images[i] = now.copy();
        imagePasts.set(i, copyAll(past));
        return 1;
    }

    private static Deque<State> copyAll(Deque<State> states) {
        Deque<State> copy = new ArrayDeque<>();
        for (State s : states) copy.addLast(s.copy());
        return copy;
    }

    int from(int i) {
        if (!in(i, 0, 1)) return bad(-2);
        if (images[i] == null) {
            refused[1]++;
            return -3;
        }
        now = images[i].copy();
        past = copyAll(imagePasts.get(i));
        return 1;
    }

    int status(int what) {
        return in(what, 0, 2) ? refused[what] : bad(-1);
    }

    int count(int what) {
        switch (what) {
            case 0: return now.p;
            case 1: return now.lumps.values().stream().mapToInt(n -> n).sum();
            case 2: return now.moons.size();
            case 3: return now.round;
            case 4: return now.strays;
            case 5: return past.size();
            case 6: return text.length();
            default: return bad(-2);
        }
    }

    long digest() {
        List<Long> all = new ArrayList<>();
        for (int what = 0; what <= 6; what++) all.add((long) count(what));
        for (int lane = 0; lane < 5; lane++) {
            all.add((long) now.steps[lane]);
            all.add((long) now.counts[lane]);
            for (int place = 0; place < now.p; place++) all.add((long) now.at(lane, place));
        }
        for (Moon m : now.moons) for (int v : new int[] {m.kind, m.edge, m.place, m.step}) all.add((long) v);
        all.add(above);
        all.add(below);
        long h = 821;
        for (long v : all) h = 31 * h + v;
        return h;
    }
}
