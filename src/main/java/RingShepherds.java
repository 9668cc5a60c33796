import java.util.Arrays;

/** Lumps of ice in lanes about a world, and the small moons that push them. */
public final class RingShepherds {
    public static final int NONE = -1, BAD = -2, NO = -3, FULL = -4;

    private static final int LANES = 5;
    private static final int LEAST_PLACES = 4;
    private static final int MOST_PLACES = 24;
    private static final int FIRST_PLACES = 12;
    private static final int MOST_MOONS = 4;
    private static final int MOST_KIND = 4;
    private static final int MOST_EDGE = 5;
    private static final int MOST_STEP = 9;
    private static final int MOST_LUMPS = 999;
    private static final int MOST_COUNT = 9999;
    private static final int MOST_ROUNDS = 60;
    private static final int MOST_PUSHED_ROUNDS = 12;
    private static final int MOST_TURNS = 6;
    private static final int MOST_UNDONE = 6;
    private static final int MOST_BYTES = 250;
    private static final int IMAGES = 2;
    private static final int COUNTED = 7;

    /** What is answered for BAD where BAD itself might be a true answer. */
    private static final int BAD_TEN = -10;
    private static final int BAD_FAR = -100000;
    private static final int NOT_SO_MANY = -5;

    private static final int WHY_BAD = 0;
    private static final int WHY_NO = 1;
    private static final int WHY_FULL = 2;

    private static final int[] FACTORIALS = {1, 1, 2, 6, 24};

    private final Story now;
    private final Story[] images;
    private final boolean[] kept;
    private final Course course;
    private final Text text;
    private final Reader reader;
    private final int[] refused;
    private long above;
    private long below;

    public RingShepherds() {
        Plain[] kinds = {new Plain(), new Wide(), new Drawing(), new Strong(), new Sleepy()};
        now = new Story(kinds);
        images = new Story[IMAGES];
        for (int i = 0; i < IMAGES; i++) {
            images[i] = new Story(kinds);
        }
        kept = new boolean[IMAGES];
        course = new Course(now.ring, new Ring(kinds));
        text = new Text();
        reader = new Reader(text, new Ring(kinds));
        refused = new int[3];
        above = 0;
        below = 1;
    }

    // ---- a ring

    public int ring(int p) {
        if (!isWithin(p, LEAST_PLACES, MOST_PLACES)) {
            return refuse(WHY_BAD, BAD);
        }
        int was = now.ring.places;
        now.ring.begin(p);
        now.forget();
        return was;
    }

    public int step(int lane, int v) {
        if (!isLane(lane) || !isWithin(v, 0, MOST_STEP)) {
            return refuse(WHY_BAD, BAD);
        }
        int was = now.ring.steps[lane];
        now.ring.steps[lane] = v;
        return was;
    }

    public int lumps(int lane, int place, int n) {
        if (!isLane(lane) || !isPlace(place) || !isWithin(n, 0, MOST_LUMPS)) {
            return refuse(WHY_BAD, BAD);
        }
        int was = now.ring.lumpsAt(lane, place);
        now.ring.setLumps(lane, place, n);
        return was;
    }

    public int moon(int kind, int edge, int place, int step) {
        if (!isWithin(kind, 0, MOST_KIND) || !isWithin(edge, 0, MOST_EDGE)
                || !isPlace(place) || !isWithin(step, 0, MOST_STEP)) {
            return refuse(WHY_BAD, BAD);
        }
        if (now.ring.moons >= MOST_MOONS) {
            return refuse(WHY_FULL, FULL);
        }
        return now.ring.addMoon(kind, edge, place, step);
    }

    public int type(long v, int n) {
        if (!isWithin(n, 1, 8)) {
            return refuse(WHY_BAD, BAD);
        }
        if (text.size + n > MOST_BYTES) {
            return refuse(WHY_FULL, FULL);
        }
        text.add(v, n);
        return text.size;
    }

    public int clear() {
        int had = text.size;
        text.size = 0;
        return had;
    }

    public int read() {
        int answer = reader.readAll();
        if (answer >= 0) {
            now.ring.copy(reader.draft);
            now.forget();
        }
        return answer;
    }

    // ---- rounds

    public int round() {
        return now.goOn();
    }

    public int undo() {
        if (now.undoable < 1) {
            return refuse(WHY_NO, NO);
        }
        now.goBack();
        return 1;
    }

    public int there(int lane, int place) {
        if (!isLane(lane) || place != NONE && !isPlace(place)) {
            return refuse(WHY_BAD, BAD_TEN);
        }
        return place == NONE ? now.ring.lumpsIn(lane) : now.ring.lumpsAt(lane, place);
    }

    public int about(int moon, int what) {
        if (!isMoon(moon) || !isWithin(what, 0, 3)) {
            return refuse(WHY_BAD, BAD);
        }
        return now.ring.aboutMoon(moon, what);
    }

    // ---- what comes

    public int where(int lane, int place, int k, int what) {
        if (!isLane(lane) || !isPlace(place) || !isRounds(k) || !isWithin(what, 0, 2)) {
            return refuse(WHY_BAD, BAD_TEN);
        }
        Lump lump = course.follow(lane, place, k);
        if (what == 0) {
            return lump.isLost() ? NONE : lump.lane;
        }
        return what == 1 ? lump.place : lump.touched;
    }

    public int loss(int k) {
        if (!isRounds(k)) {
            return refuse(WHY_BAD, BAD);
        }
        return course.lossIn(k);
    }

    public int pushes(int k) {
        if (!isWithin(k, 0, MOST_PUSHED_ROUNDS)) {
            return refuse(WHY_BAD, BAD);
        }
        return course.fewestPushes(k);
    }

    public int moved(int moon, int k) {
        if (!isMoon(moon) || !isRounds(k)) {
            return refuse(WHY_BAD, BAD);
        }
        return course.bestMove(moon, k);
    }

    public int road(int place, int k, int what) {
        if (!isPlace(place) || !isRounds(k) || !isWithin(what, 0, 1)) {
            return refuse(WHY_BAD, BAD_TEN);
        }
        int first = course.roadOpens(place, k);
        if (what == 0 || first == NONE) {
            return first;
        }
        return course.roadLasts(place, k, first);
    }

    public int back() {
        return now.ring.comesRound();
    }

    public int told(int lane, int n) {
        if (!isLane(lane) || !isWithin(n, 0, MOST_COUNT)) {
            return refuse(WHY_BAD, BAD);
        }
        int was = now.ring.counts[lane];
        now.ring.counts[lane] = n;
        return was;
    }

    public int taken(int k, int i) {
        if (!isRounds(k) || i < NONE) {
            return refuse(WHY_BAD, BAD_TEN);
        }
        int found = course.findTaken(k);
        if (i == NONE) {
            return found;
        }
        return i < found ? course.takenAt(i) : NOT_SO_MANY;
    }

    public int game(int n, int what) {
        if (!isWithin(n, 1, MOST_TURNS) || !isWithin(what, 0, 1)) {
            return refuse(WHY_BAD, BAD_FAR);
        }
        return what == 0 ? course.farmerAhead(n) : course.firstTaken(n);
    }

    public int fee(int moon, int k) {
        if (!isMoon(moon) || !isRounds(k)) {
            return refuse(WHY_BAD, BAD);
        }
        long sum = course.addedInAllOrders(moon, k);
        long orders = FACTORIALS[now.ring.moons];
        long common = greatestDivisor(Math.abs(sum), orders);
        if (common > 0) {
            above = sum / common;
            below = orders / common;
        }
        return 1;
    }

    // ---- what there is

    public long part(int what) {
        if (!isWithin(what, 0, 1)) {
            return refuse(WHY_BAD, BAD_FAR);
        }
        return what == 0 ? above : below;
    }

    public int image(int i) {
        if (!isWithin(i, 0, IMAGES - 1)) {
            return refuse(WHY_BAD, BAD);
        }
        images[i].copy(now);
        kept[i] = true;
        return 1;
    }

    public int from(int i) {
        if (!isWithin(i, 0, IMAGES - 1)) {
            return refuse(WHY_BAD, BAD);
        }
        if (!kept[i]) {
            return refuse(WHY_NO, NO);
        }
        now.copy(images[i]);
        return 1;
    }

    public int status(int what) {
        if (!isWithin(what, WHY_BAD, WHY_FULL)) {
            return refuse(WHY_BAD, -1);
        }
        return refused[what];
    }

    public int count(int what) {
        if (!isWithin(what, 0, COUNTED - 1)) {
            return refuse(WHY_BAD, BAD);
        }
        return counted(what);
    }

    public long digest() {
        long h = 821;
        for (int what = 0; what < COUNTED; what++) {
            h = 31 * h + counted(what);
        }
        h = now.ring.addTo(h);
        h = 31 * h + above;
        return 31 * h + below;
    }

    // ---- helpers

    private int counted(int what) {
        switch (what) {
            case 0: return now.ring.places;
            case 1: return now.ring.lumpsInAll();
            case 2: return now.ring.moons;
            case 3: return now.ring.rounds;
            case 4: return now.ring.strays;
            case 5: return now.undoable;
            default: return text.size;
        }
    }

    private int refuse(int why, int answer) {
        refused[why]++;
        return answer;
    }

    private boolean isPlace(int place) {
        return isWithin(place, 0, now.ring.places - 1);
    }

    private boolean isMoon(int moon) {
        return isWithin(moon, 0, now.ring.moons - 1);
    }

    private static boolean isRounds(int k) {
        return isWithin(k, 0, MOST_ROUNDS);
    }

    private static boolean isLane(int lane) {
        return lane >= 0 && lane < LANES;
    }

    private static boolean isWithin(int n, int least, int most) {
        return n >= least && n <= most;
    }

    private static long greatestDivisor(long a, long b) {
        long larger = a;
        long smaller = b;
        // Euclid's remainders halve every other time, so 200 is far more than a long can need
        for (int i = 0; i < 200 && smaller != 0; i++) {
            long rest = larger % smaller;
            larger = smaller;
            smaller = rest;
        }
        return larger;
    }

    /** The KIND that all others stand under. */
    static class Plain {
        /** By how many LANES the outer LUMPS go out and the inner ones in. */
        int force() {
            return 1;
        }

        /** How many PLACES on either side of the MOON's are hers, too. */
        int reach() {
            return 0;
        }

        boolean isAwake(int round) {
            return true;
        }
    }

    static class Wide extends Plain {
        int reach() {
            return 1;
        }
    }

    static final class Drawing extends Plain {
        int force() {
            return -1;
        }
    }

    static final class Strong extends Wide {
        int force() {
            return 2;
        }
    }

    static final class Sleepy extends Plain {
        boolean isAwake(int round) {
            return round % 3 != 0;
        }
    }

    /** THE RING with all that is in it at one time. */
    static final class Ring {
        private final Plain[] kinds;
        final int[] steps;
        final int[] counts;
        // Seats go round with their LANE, so that a ROUND touches no LUMPS but those that a MOON is by.
        private final int[] seats;
        private final int[] turned;
        private final int[] kindOf;
        private final int[] edgeOf;
        private final int[] placeOf;
        private final int[] stepOf;
        int places;
        int moons;
        int rounds;
        int strays;

        Ring(Plain[] kinds) {
            this.kinds = kinds;
            steps = new int[LANES];
            counts = new int[LANES];
            seats = new int[LANES * MOST_PLACES];
            turned = new int[LANES];
            kindOf = new int[MOST_MOONS];
            edgeOf = new int[MOST_MOONS];
            placeOf = new int[MOST_MOONS];
            stepOf = new int[MOST_MOONS];
            begin(FIRST_PLACES);
        }

        void begin(int p) {
            places = p;
            moons = 0;
            rounds = 0;
            strays = 0;
            for (int lane = 0; lane < LANES; lane++) {
                steps[lane] = LANES - lane;
            }
            Arrays.fill(counts, 0);
            Arrays.fill(seats, 0);
            Arrays.fill(turned, 0);
        }

        void copy(Ring other) {
            places = other.places;
            moons = other.moons;
            System.arraycopy(other.steps, 0, steps, 0, LANES);
            System.arraycopy(other.counts, 0, counts, 0, LANES);
            System.arraycopy(other.kindOf, 0, kindOf, 0, MOST_MOONS);
            System.arraycopy(other.edgeOf, 0, edgeOf, 0, MOST_MOONS);
            System.arraycopy(other.stepOf, 0, stepOf, 0, MOST_MOONS);
            goBackTo(other);
        }

        /** Takes over just what a ROUND changes; MOONS that the other has not stay where they are. */
        void goBackTo(Ring past) {
            rounds = past.rounds;
            strays = past.strays;
            System.arraycopy(past.seats, 0, seats, 0, LANES * MOST_PLACES);
            System.arraycopy(past.turned, 0, turned, 0, LANES);
            System.arraycopy(past.placeOf, 0, placeOf, 0, past.moons);
        }

        /** The PLACE by a number from 0 on. */
        int around(int n) {
            return places < 1 ? 0 : n % places;
        }

        int lumpsAt(int lane, int place) {
            return seats[seat(lane, place)];
        }

        void setLumps(int lane, int place, int n) {
            seats[seat(lane, place)] = n;
        }

        private int seat(int lane, int place) {
            int seat = place - turned[lane];
            return lane * MOST_PLACES + (seat < 0 ? seat + places : seat);
        }

        int lumpsIn(int lane) {
            int sum = 0;
            int first = lane * MOST_PLACES;
            for (int i = first; i < first + places; i++) {
                sum += seats[i];
            }
            return sum;
        }

        int lumpsInAll() {
            int sum = 0;
            for (int lane = 0; lane < LANES; lane++) {
                sum += lumpsIn(lane);
            }
            return sum;
        }

        boolean isClear(int place) {
            for (int lane = 0; lane < LANES; lane++) {
                if (lumpsAt(lane, place) > 0) {
                    return false;
                }
            }
            return true;
        }

        int addMoon(int kind, int edge, int place, int step) {
            kindOf[moons] = kind;
            edgeOf[moons] = edge;
            placeOf[moons] = place;
            stepOf[moons] = step;
            moons++;
            return moons - 1;
        }

        int aboutMoon(int moon, int what) {
            switch (what) {
                case 0: return kindOf[moon];
                case 1: return edgeOf[moon];
                case 2: return placeOf[moon];
                default: return stepOf[moon];
            }
        }

        void moveMoon(int moon, int by) {
            placeOf[moon] = around(placeOf[moon] + by);
        }

        /** Only the MOONS whose bits are set stay, in their order. */
        void keepMoons(int set) {
            int had = moons;
            moons = 0;
            for (int moon = 0; moon < had; moon++) {
                if ((set >> moon & 1) == 1) {
                    addMoon(kindOf[moon], edgeOf[moon], placeOf[moon], stepOf[moon]);
                }
            }
        }

        /** A ROUND: how many LUMPS are LOST by it. */
        int goOn() {
            rounds++;
            for (int lane = 0; lane < LANES; lane++) {
                turned[lane] = around(turned[lane] + steps[lane]);
            }
            for (int moon = 0; moon < moons; moon++) {
                moveMoon(moon, stepOf[moon]);
            }
            int lost = 0;
            for (int moon = 0; moon < moons; moon++) {
                lost += passBy(moon);
            }
            strays += lost;
            return lost;
        }

        /** Some ROUNDS: how many LUMPS are LOST by them. */
        int goOnBy(int k) {
            int lost = 0;
            for (int r = 0; r < k; r++) {
                lost += goOn();
            }
            return lost;
        }

        private int passBy(int moon) {
            Plain kind = kinds[kindOf[moon]];
            if (!kind.isAwake(rounds)) {
                return 0;
            }
            int edge = edgeOf[moon];
            int force = kind.force();
            int reach = kind.reach();
            int lost = 0;
            for (int beside = -reach; beside <= reach; beside++) {
                int place = around(placeOf[moon] + beside + places);
                // both LANES are emptied before either is filled: they are moved at once
                int outer = takeAll(edge, place);
                int inner = takeAll(edge - 1, place);
                lost += put(edge + force, place, outer) + put(edge - 1 - force, place, inner);
            }
            return lost;
        }

        private int takeAll(int lane, int place) {
            if (!isLane(lane)) {
                return 0;
            }
            int seat = seat(lane, place);
            int n = seats[seat];
            seats[seat] = 0;
            return n;
        }

        /** How many of n LUMPS are LOST by coming to a LANE. */
        private int put(int lane, int place, int n) {
            if (!isLane(lane)) {
                return n;
            }
            seats[seat(lane, place)] += n;
            return 0;
        }

        /** By how many LANES a MOON moves a LUMP that lies so in the r-th ROUND from now. */
        int pushOf(int moon, int r, int lane, int place) {
            int edge = edgeOf[moon];
            if (lane != edge && lane != edge - 1) {
                return 0;
            }
            Plain kind = kinds[kindOf[moon]];
            if (!kind.isAwake(rounds + r)) {
                return 0;
            }
            int apart = around(place - around(placeOf[moon] + r * stepOf[moon]) + places);
            if (Math.min(apart, places - apart) > kind.reach()) {
                return 0;
            }
            return lane == edge ? kind.force() : -kind.force();
        }

        /** The fewest ROUNDS behind which all STEPS together come to whole turns; P do always. */
        int comesRound() {
            int r = 1;
            while (r < places && !isRoundBehind(r)) {
                r++;
            }
            return r;
        }

        private boolean isRoundBehind(int r) {
            for (int lane = 0; lane < LANES; lane++) {
                if (around(r * steps[lane]) != 0) {
                    return false;
                }
            }
            for (int moon = 0; moon < moons; moon++) {
                if (around(r * stepOf[moon]) != 0) {
                    return false;
                }
            }
            return true;
        }

        long addTo(long digest) {
            long h = digest;
            for (int lane = 0; lane < LANES; lane++) {
                h = 31 * h + steps[lane];
                h = 31 * h + counts[lane];
                for (int place = 0; place < places; place++) {
                    h = 31 * h + lumpsAt(lane, place);
                }
            }
            for (int moon = 0; moon < moons; moon++) {
                for (int what = 0; what < 4; what++) {
                    h = 31 * h + aboutMoon(moon, what);
                }
            }
            return h;
        }
    }

    /** A RING and what may be undone in it. */
    static final class Story {
        final Ring ring;
        private final Ring[] pasts;
        private int newest;
        int undoable;

        Story(Plain[] kinds) {
            ring = new Ring(kinds);
            pasts = new Ring[MOST_UNDONE];
            for (int i = 0; i < MOST_UNDONE; i++) {
                pasts[i] = new Ring(kinds);
            }
            newest = 0;
            undoable = 0;
        }

        void copy(Story other) {
            ring.copy(other.ring);
            for (int i = 0; i < MOST_UNDONE; i++) {
                pasts[i].copy(other.pasts[i]);
            }
            newest = other.newest;
            undoable = other.undoable;
        }

        void forget() {
            undoable = 0;
        }

        int goOn() {
            newest = (newest + 1) % MOST_UNDONE;
            undoable = Math.min(undoable + 1, MOST_UNDONE);
            pasts[newest].copy(ring);
            return ring.goOn();
        }

        void goBack() {
            ring.goBackTo(pasts[newest]);
            newest = (newest + MOST_UNDONE - 1) % MOST_UNDONE;
            undoable--;
        }
    }

    /** One LUMP, followed through ROUNDS to come. */
    static final class Lump {
        int lane;
        int place;
        int touched;

        void lie(int lane, int place) {
            this.lane = lane;
            this.place = place;
            touched = 0;
        }

        boolean isLost() {
            return !isLane(lane);
        }

        /** The r-th ROUND from now, in a RING that stays as it is now. */
        void goOn(Ring ring, int r) {
            if (isLost()) {
                return;
            }
            place = ring.around(place + ring.steps[lane]);
            for (int moon = 0; moon < ring.moons && !isLost(); moon++) {
                int by = ring.pushOf(moon, r, lane, place);
                if (by != 0) {
                    lane += by;
                    touched++;
                }
            }
        }
    }

    /** What would come of THE RING, which stays as it is. */
    static final class Course {
        /** More pushes than any LUMP could have. */
        private static final int NEVER = 1000;

        private final Ring ring;
        private final Ring trial;
        private final Lump lump;
        private final int[] sums;
        private final int[] cost;
        private final int[] costLeft;
        private final int[] takenFrom;
        private final int[] lossOf;

        Course(Ring ring, Ring trial) {
            this.ring = ring;
            this.trial = trial;
            lump = new Lump();
            sums = new int[LANES];
            cost = new int[LANES * MOST_PLACES];
            costLeft = new int[LANES * MOST_PLACES];
            takenFrom = new int[LANES * MOST_PLACES];
            lossOf = new int[1 << MOST_MOONS];
        }

        Lump follow(int lane, int place, int k) {
            lump.lie(lane, place);
            for (int r = 1; r <= k && !lump.isLost(); r++) {
                lump.goOn(ring, r);
            }
            return lump;
        }

        int lossIn(int k) {
            trial.copy(ring);
            return trial.goOnBy(k);
        }

        int bestMove(int moon, int k) {
            int best = 0;
            int least = 0;
            for (int by = 0; by < ring.places; by++) {
                trial.copy(ring);
                trial.moveMoon(moon, by);
                int loss = trial.goOnBy(k);
                if (by == 0 || loss < least) {
                    least = loss;
                    best = by;
                }
            }
            return best;
        }

        // ---- pushes, from the last ROUND backwards

        int fewestPushes(int k) {
            Arrays.fill(cost, 0);
            for (int r = k; r >= 1; r--) {
                leaveInRound(r);
                pushAheadOfRound();
            }
            int sum = 0;
            for (int lane = 0; lane < LANES; lane++) {
                for (int place = 0; place < ring.places; place++) {
                    int n = ring.lumpsAt(lane, place);
                    int each = cost[cell(lane, place)];
                    if (n > 0 && each >= NEVER) {
                        return NONE;
                    }
                    sum += n * each;
                }
            }
            return sum;
        }

        private void leaveInRound(int r) {
            for (int lane = 0; lane < LANES; lane++) {
                for (int place = 0; place < ring.places; place++) {
                    lump.lie(lane, place);
                    lump.goOn(ring, r);
                    costLeft[cell(lane, place)] = lump.isLost() ? NEVER : cost[cell(lump.lane, lump.place)];
                }
            }
        }

        private void pushAheadOfRound() {
            for (int lane = 0; lane < LANES; lane++) {
                for (int place = 0; place < ring.places; place++) {
                    int pushed = 1 + Math.min(costIfLeft(lane - 1, place), costIfLeft(lane + 1, place));
                    cost[cell(lane, place)] = Math.min(costIfLeft(lane, place), pushed);
                }
            }
        }

        private int costIfLeft(int lane, int place) {
            return isLane(lane) ? costLeft[cell(lane, place)] : NEVER;
        }

        private static int cell(int lane, int place) {
            return lane * MOST_PLACES + place;
        }

        // ---- a road

        int roadOpens(int place, int k) {
            trial.copy(ring);
            for (int r = 0; r <= k; r++) {
                if (trial.isClear(place)) {
                    return r;
                }
                trial.goOn();
            }
            return NONE;
        }

        /** Goes on in the trial that roadOpens left at the first ROUND. */
        int roadLasts(int place, int k, int first) {
            int r = first;
            while (r <= k && trial.isClear(place)) {
                trial.goOn();
                r++;
            }
            return r - first;
        }

        // ---- what was taken

        /** How many PLACES of LANES may have been taken: takenAt tells them. */
        int findTaken(int k) {
            trial.copy(ring);
            trial.goOnBy(k);
            int found = 0;
            for (int lane = 0; lane < LANES; lane++) {
                for (int place = 0; place < ring.places; place++) {
                    if (ring.lumpsAt(lane, place) > 0 && fitsWithout(lane, place, k)) {
                        takenFrom[found] = 100 * lane + place;
                        found++;
                    }
                }
            }
            return found;
        }

        int takenAt(int i) {
            return takenFrom[i];
        }

        private boolean fitsWithout(int lane, int place, int k) {
            int end = follow(lane, place, k).lane;
            for (int i = 0; i < LANES; i++) {
                int missing = i == end ? ring.lumpsAt(lane, place) : 0;
                if (trial.lumpsIn(i) - missing != ring.counts[i]) {
                    return false;
                }
            }
            return true;
        }

        // ---- the game

        int farmerAhead(int turns) {
            sumLanes();
            return aheadBy(sums, 0, turns);
        }

        /** Every first LANE is tried: one with fewer LUMPS may do as well as the fullest. */
        int firstTaken(int turns) {
            int best = farmerAhead(turns);
            for (int lane = 0; lane < LANES; lane++) {
                if (sums[lane] > 0 && sums[lane] - aheadBy(sums, 1 << lane, turns - 1) == best) {
                    return lane;
                }
            }
            return NONE;
        }

        private void sumLanes() {
            for (int lane = 0; lane < LANES; lane++) {
                sums[lane] = ring.lumpsIn(lane);
            }
        }

        /** By how much the one whose turn it is gets ahead in the turns that are left. */
        private static int aheadBy(int[] lanes, int gone, int turns) {
            if (turns <= 0) {
                return 0;
            }
            boolean any = false;
            int best = 0;
            for (int lane = 0; lane < LANES; lane++) {
                if (lanes[lane] > 0 && (gone >> lane & 1) == 0) {
                    int ahead = lanes[lane] - aheadBy(lanes, gone | 1 << lane, turns - 1);
                    if (!any || ahead > best) {
                        best = ahead;
                        any = true;
                    }
                }
            }
            return best;
        }

        // ---- the fee

        /** What a MOON adds to LOSS, summed over all orders in which the MOONS may come. */
        long addedInAllOrders(int moon, int k) {
            int sets = 1 << ring.moons;
            for (int set = 0; set < sets; set++) {
                trial.copy(ring);
                trial.keepMoons(set);
                lossOf[set] = trial.goOnBy(k);
            }
            int own = 1 << moon;
            long sum = 0;
            for (int set = 0; set < sets; set++) {
                if ((set & own) == 0) {
                    sum += ordersBehind(set) * (lossOf[set | own] - lossOf[set]);
                }
            }
            return sum;
        }

        /** In how many orders just this set has come when a MOON that is not in it comes. */
        private long ordersBehind(int set) {
            int before = Integer.bitCount(set);
            int after = ring.moons - 1 - before;
            return after < 0 ? 0 : FACTORIALS[before] * FACTORIALS[after];
        }
    }

    /** THE TEXT and its TOKENS. */
    static final class Text {
        static final int END = 0, WORD = 1, NUMBER = 2, SEMICOLON = 3, WRONG = 4;

        private static final int BLANK = 32;
        private static final int MOST_FIGURES = 3;

        private final int[] bytes;
        int size;
        int token;
        int start;
        private int end;

        Text() {
            bytes = new int[MOST_BYTES];
            size = 0;
            rewind();
        }

        void add(long v, int n) {
            for (int i = n - 1; i >= 0; i--) {
                bytes[size] = (int) (v >> 8 * i & 255);
                size++;
            }
        }

        void rewind() {
            token = END;
            start = 0;
            end = 0;
        }

        /** Behind the last TOKEN the next one is END, at THE TEXT's length. */
        void nextToken() {
            start = end;
            while (start < size && bytes[start] == BLANK) {
                start++;
            }
            end = start;
            token = END;
            if (start < size) {
                token = begunBy(bytes[start]);
                end++;
            }
            while ((token == WORD || token == NUMBER) && end < size && begunBy(bytes[end]) == token) {
                end++;
            }
            if (token == NUMBER && end - start > MOST_FIGURES) {
                token = WRONG;
            }
        }

        private static int begunBy(int b) {
            if (b >= 'a' && b <= 'z') {
                return WORD;
            }
            if (b >= '0' && b <= '9') {
                return NUMBER;
            }
            return b == ';' ? SEMICOLON : WRONG;
        }

        /** The TOKEN's number; NONE, which is no number as told, if it is another TOKEN. */
        int number() {
            if (token != NUMBER) {
                return NONE;
            }
            int n = 0;
            for (int i = start; i < end; i++) {
                n = 10 * n + bytes[i] - '0';
            }
            return n;
        }

        boolean isWord(String word) {
            if (token != WORD || end - start != word.length()) {
                return false;
            }
            for (int i = 0; i < word.length(); i++) {
                if (bytes[start + i] != word.charAt(i)) {
                    return false;
                }
            }
            return true;
        }
    }

    /** Reads a RING from THE TEXT, by ITEMS; a reading that fails leaves the text at the TOKEN at fault. */
    static final class Reader {
        private static final int FAULTS = -10;

        private final Text text;
        final Ring draft;
        private final int[] numbers;

        Reader(Text text, Ring draft) {
            this.text = text;
            this.draft = draft;
            numbers = new int[4];
        }

        /** How many ITEMS, which then stand in the draft; or -10 less the FAULT. */
        int readAll() {
            text.rewind();
            text.nextToken();
            if (!readRing()) {
                return FAULTS - text.start;
            }
            int items = 1;
            text.nextToken();
            while (items < MOST_BYTES && text.token != Text.END) {
                if (!readItem()) {
                    return FAULTS - text.start;
                }
                items++;
                text.nextToken();
            }
            return items;
        }

        private boolean readRing() {
            if (!text.isWord("ring") || !takeNumber(0, LEAST_PLACES, MOST_PLACES) || !takeSemicolon()) {
                return false;
            }
            draft.begin(numbers[0]);
            return true;
        }

        private boolean readItem() {
            if (text.isWord("step")) {
                return readStep();
            }
            if (text.isWord("lumps")) {
                return readLumps();
            }
            return text.isWord("moon") && draft.moons < MOST_MOONS && readMoon();
        }

        private boolean readStep() {
            if (!takeNumber(0, 0, LANES - 1) || !takeNumber(1, 0, MOST_STEP) || !takeSemicolon()) {
                return false;
            }
            draft.steps[numbers[0]] = numbers[1];
            return true;
        }

        private boolean readLumps() {
            if (!takeNumber(0, 0, LANES - 1) || !takeNumber(1, 0, draft.places - 1)
                    || !takeNumber(2, 0, MOST_LUMPS) || !takeSemicolon()) {
                return false;
            }
            draft.setLumps(numbers[0], numbers[1], numbers[2]);
            return true;
        }

        private boolean readMoon() {
            if (!takeNumber(0, 0, MOST_KIND) || !takeNumber(1, 0, MOST_EDGE)
                    || !takeNumber(2, 0, draft.places - 1) || !takeNumber(3, 0, MOST_STEP) || !takeSemicolon()) {
                return false;
            }
            draft.addMoon(numbers[0], numbers[1], numbers[2], numbers[3]);
            return true;
        }

        private boolean takeNumber(int i, int least, int most) {
            text.nextToken();
            numbers[i] = text.number();
            return isWithin(numbers[i], least, most);
        }

        private boolean takeSemicolon() {
            text.nextToken();
            return text.token == Text.SEMICOLON;
        }
    }
}
