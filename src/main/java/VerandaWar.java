import java.util.Arrays;

/**
 * A war from verandas: two rows of chairs on both sides of a valley. The document's promises are told by number
 * in the comments, where a choice among readings was needed.
 */
public final class VerandaWar {
    public static final int NONE = -1;

    private static final int NOT_SO = -2;
    private static final int NO_PLACE = -4;

    private static final int CHAIRS = 8;
    private static final int PLACES = 16;
    private static final int COLUMNS = 24;
    private static final int MOST = 99;
    private static final int MOST_CUSHIONS = 9;
    private static final int MOST_WATCHES = 120;
    private static final int NIGHT = 5;
    private static final int LAST_DAY = 9999;

    private static final int SITS = 0;
    private static final int DINNER = 1;
    private static final int IN = 2;
    private static final int EMPTY = 3;

    private static final int FAULT_PLACE = 1;
    private static final int FAULT_DIGITS = 2;
    private static final int FAULT_CUSHIONS = 3;
    private static final int FAULT_MANY = 4;
    private static final int FAULT_DEEP = 5;
    private static final int FAULT_LAMPS = 6;
    private static final int FAULT_EMPTY = 7;

    private final War now = new War();
    private final War kept = new War();
    private final War trial = new War();
    private final Valley valley = new Valley();
    private final Tape tape = new Tape();
    private final OrdersReader ordersReader = new OrdersReader(tape);
    private final Course course = new Course(valley);
    private final Signals near = new Signals();
    private final Signals far = new Signals();
    private final Signals read = new Signals();
    private final Common common = new Common();
    private final Glasses tray = new Glasses();
    private final Bridge table = new Bridge();
    private final int[] row = new int[COLUMNS];
    private Law rules = new Law();
    private Law spare = new Law();
    private final LawReader lawReader = new LawReader(tape, spare);
    private boolean isKept = false;

    /** Promise 1. */
    public VerandaWar() {
    }

    /** Promise 2. */
    public boolean chair(int side, int c, int rank, int lemonade, int cushions) {
        if (!isChair(side, c) || !within(rank, 0, 9) || !within(lemonade, 0, MOST)
                || !within(cushions, 0, MOST_CUSHIONS)) {
            return false;
        }
        now.seat(side * CHAIRS + c, rank, lemonade, cushions);
        now.lost = 0;
        return true;
    }

    /** Promise 3. */
    public boolean floor(int side, int height) {
        if (!isSide(side) || !within(height, 0, 99)) {
            return false;
        }
        valley.floors[side] = height;
        return true;
    }

    /** Promise 4. */
    public boolean column(int i, int height) {
        if (!within(i, 0, COLUMNS - 1) || !within(height, 0, 199)) {
            return false;
        }
        valley.columns[i] = height;
        return true;
    }

    /** Promise 5. */
    public int feed(int a, int b, int c, int d, int e) {
        if (!tape.hasRoom(20)) {
            return NONE;
        }
        tape.add(a);
        tape.add(b);
        tape.add(c);
        tape.add(d);
        tape.add(e);
        return tape.many;
    }

    /** Promise 6. */
    public int law(int n) {
        if (!within(n, 1, 240) || !tape.has(n)) {
            return NONE;
        }
        boolean good = lawReader.readInto(spare, n);
        tape.clear();
        if (!good) {
            return tape.fault;
        }
        Law before = rules;
        rules = spare;
        spare = before;
        return rules.many;
    }

    /** Promise 7. The orders are tried on a copy, so that one with a fault leaves nothing behind. */
    public int orders(int n) {
        if (!within(n, 1, 120) || !tape.has(n)) {
            return NONE;
        }
        trial.copy(now);
        boolean good = ordersReader.readOnto(trial, n);
        tape.clear();
        if (!good) {
            return tape.fault;
        }
        now.copy(trial);
        return ordersReader.lines;
    }

    /** Promise 8. */
    public int signals(int side, int n) {
        if (!isSide(side) || !within(n, 1, 40) || !tape.has(n)) {
            return NONE;
        }
        boolean good = read.readFrom(tape, n);
        tape.clear();
        if (!good) {
            return tape.fault;
        }
        Signals own = signalsOf(side);
        own.copy(read);
        return own.many;
    }

    /** Promise 9. */
    public int watches(int n) {
        if (!within(n, 1, MOST_WATCHES)) {
            return NONE;
        }
        course.run(now, rules, n);
        return course.wentIn;
    }

    /** Promise 10. */
    public int tried(int n, int what) {
        boolean ofChair = within(what, 10, 17) || within(what, 20, 27);
        if (!within(n, 1, MOST_WATCHES) || !within(what, 0, 3) && !ofChair) {
            return NONE;
        }
        tryWatches(n);
        if (ofChair) {
            int place = (what / 10 - 1) * CHAIRS + what % 10;
            return trial.state[place] == EMPTY ? NONE : trial.boredom[place];
        }
        switch (what) {
            case 0:
                return course.wentIn;
            case 1:
                return course.dinners;
            case 2:
                return course.drunk;
            default:
                return trial.lost;
        }
    }

    /** Promise 11. */
    public int chairIs(int side, int c, int what) {
        if (!isGentleman(side, c)) {
            return NONE;
        }
        int place = side * CHAIRS + c;
        switch (what) {
            case 0:
                return now.rank[place];
            case 1:
                return now.boredom[place];
            case 2:
                return now.lemonade[place];
            case 3:
                return now.cushions[place];
            case 4:
                return now.state[place];
            case 5:
                valley.lookAround(now);
                return valley.sight[place] & now.bits(1 - side, SITS);
            case 6:
                return valley.eye(side, now.cushions[place]);
            default:
                return NONE;
        }
    }

    /** Promise 12. */
    public int sees(int c, int e) {
        if (!isGentleman(0, c) || !isGentleman(1, e)) {
            return NONE;
        }
        return valley.sighted(now, c, e) ? 1 : 0;
    }

    /** Promise 13. */
    public int toSee(int side, int c, int e) {
        if (!isGentleman(side, c) || !isGentleman(1 - side, e)) {
            return NONE;
        }
        int has = now.cushions[side * CHAIRS + c];
        int other = valley.eye(1 - side, now.cushions[(1 - side) * CHAIRS + e]);
        for (int more = 0; has + more <= MOST_CUSHIONS; more++) {
            int own = valley.eye(side, has + more);
            boolean free = side == 0 ? valley.isFree(own, other, NONE) : valley.isFree(other, own, NONE);
            if (free) {
                return more;
            }
        }
        return NOT_SO;
    }

    /** Promise 14. */
    public int overTrees(int what) {
        if (!within(what, 0, 2)) {
            return NONE;
        }
        int twos = valley.twos(now, NONE);
        if (what == 0) {
            return twos;
        }
        int best = NOT_SO;
        int most = 0;
        for (int i = 0; i < COLUMNS; i++) {
            int more = valley.columns[i] == 0 ? 0 : valley.twos(now, i) - twos;
            if (more > most) {
                best = i;
                most = more;
            }
        }
        return what == 1 ? best : most;
    }

    /** Promise 15. Who goes in on side 0 is tried by bits upwards, so that of like ones the least comes first. */
    public int hidden(int what) {
        if (!within(what, 0, 2)) {
            return NONE;
        }
        valley.lookAround(now);
        int sitNear = now.bits(0, SITS);
        int sitFar = now.bits(1, SITS);
        int fewest = PLACES + 1;
        int bestNear = 0;
        int bestFar = 0;
        for (int goNear = 0; goNear < 256; goNear++) {
            if ((goNear & ~sitNear) == 0) {
                int goFar = valley.seenBy(sitNear & ~goNear) & sitFar;
                int all = Integer.bitCount(goNear) + Integer.bitCount(goFar);
                if (all < fewest) {
                    fewest = all;
                    bestNear = goNear;
                    bestFar = goFar;
                }
            }
        }
        return what == 0 ? fewest : what == 1 ? bestNear : bestFar;
    }

    /** Promise 16. */
    public boolean capture(int side, int c, int e) {
        if (!isGentleman(side, c) || !isGentleman(1 - side, e) || now.watch != NIGHT) {
            return false;
        }
        int taker = side * CHAIRS + c;
        int giver = (1 - side) * CHAIRS + e;
        if (now.state[taker] != SITS || now.state[giver] == SITS) {
            return false;
        }
        if (now.cushions[taker] >= MOST_CUSHIONS || now.cushions[giver] < 1) {
            return false;
        }
        boolean seen = side == 0 ? valley.sighted(now, c, e) : valley.sighted(now, e, c);
        if (!seen) {
            return false;
        }
        now.cushions[taker]++;
        now.cushions[giver]--;
        return true;
    }

    /** Promise 17. */
    public int whenIn(int side, int c, int n) {
        if (!isGentleman(side, c) || !within(n, 1, MOST_WATCHES)) {
            return NONE;
        }
        int place = side * CHAIRS + c;
        if (now.state[place] == IN) {
            return 0;
        }
        tryWatches(n);
        return course.behind[place] > 0 ? course.behind[place] : NOT_SO;
    }

    /** Promise 18. */
    public int first(int n, int what) {
        if (!within(n, 1, MOST_WATCHES) || !within(what, 0, 2)) {
            return NONE;
        }
        tryWatches(n);
        int place = course.firstIn;
        if (place < 0 || place >= PLACES) {
            return NOT_SO;
        }
        return what == 0 ? place / CHAIRS : what == 1 ? place % CHAIRS : course.behind[place];
    }

    /** Promise 19. */
    public int loses(int n, int what) {
        if (!within(n, 1, MOST_WATCHES) || !within(what, 0, 1)) {
            return NONE;
        }
        if (now.lost != 0) {
            return what == 0 ? now.lost : 0;
        }
        tryWatches(n);
        if (what == 0) {
            return trial.lost;
        }
        return trial.lost == 0 ? NOT_SO : course.lostBehind;
    }

    /** Promise 20. More lemonade need not last longer (t may ask l), so each number is tried, from the least. */
    public int lasts(int side, int c, int n) {
        if (!isGentleman(side, c) || !within(n, 1, 60)) {
            return NONE;
        }
        int place = side * CHAIRS + c;
        if (now.state[place] != SITS) {
            return NONE;
        }
        valley.lookAround(now);
        for (int more = 0; more <= MOST; more++) {
            trial.copy(now);
            trial.lemonade[place] += more;
            if (course.outlasts(trial, rules, place, n)) {
                return more;
            }
        }
        return NOT_SO;
    }

    /** Promise 21. */
    public int glasses(int what) {
        if (!within(what, 0, CHAIRS - 1) && !within(what, 100, 101)) {
            return NONE;
        }
        tray.carry(now.bits(0, SITS), now.bits(1, SITS));
        if (what == 100) {
            return tray.apart();
        }
        if (what == 101) {
            return tray.twos();
        }
        return tray.whom[what] == Glasses.NOBODY ? NOT_SO : tray.whom[what];
    }

    /** Promise 22. Each change of neighbours mends one pair that stands the wrong way round: those are counted. */
    public int march(int side) {
        if (!isSide(side)) {
            return NONE;
        }
        int out = now.bits(side, SITS) | now.bits(side, DINNER);
        int changes = 0;
        for (int c = 0; c < CHAIRS; c++) {
            for (int e = c + 1; e < CHAIRS; e++) {
                boolean both = (out >> c & 1) == 1 && (out >> e & 1) == 1;
                if (both && now.rank[side * CHAIRS + c] > now.rank[side * CHAIRS + e]) {
                    changes++;
                }
            }
        }
        return changes;
    }

    /** Promise 23. */
    public int ridge(int what) {
        if (!within(what, 0, 1)) {
            return NONE;
        }
        return what == 0 ? crests() : longestRise();
    }

    /** Promise 24. */
    public int answered() {
        int both = Math.min(near.many, far.many);
        for (int i = 0; i < both; i++) {
            if (near.lamps[i] != far.lamps[i]) {
                return i;
            }
        }
        return near.many == far.many ? NOT_SO : both;
    }

    /** Promise 25. */
    public int inCommon(int what) {
        if (what != 100 && !within(what, 0, Signals.MOST_LAMPS - 1)) {
            return NONE;
        }
        common.compare(near, far);
        return what == 100 ? common.length() : common.lampAt(near, far, what);
    }

    /** Promise 26. */
    public int beat(int side) {
        if (!isSide(side)) {
            return NONE;
        }
        Signals own = signalsOf(side);
        for (int length = 1; length <= own.many; length++) {
            if (own.repeatsAfter(length)) {
                return length;
            }
        }
        return NOT_SO;
    }

    /** Promise 27. */
    public int lamps(int side, int sign) {
        if (!isSide(side) || !within(sign, 0, 5)) {
            return NONE;
        }
        return signalsOf(side).howOften(sign);
    }

    /** Promise 28. */
    public int bridge(int n, int trumps, int leads, int what) {
        if (!within(n, 1, 3) || !within(trumps, 0, 4) || !within(leads, 0, 3) || !within(what, 0, 1)
                || !tape.has(4 * n)) {
            return NONE;
        }
        boolean good = table.deal(tape, n, trumps);
        tape.clear();
        if (!good) {
            return NOT_SO;
        }
        table.playFrom(leads);
        return what == 0 ? table.tricks : table.card;
    }

    /** Promise 29. */
    public int parrots(int n, int many, int what) {
        if (!within(n, 1, 8) || !within(many, 0, 8) || !within(what, 0, 3) || !tape.has(n)) {
            return NONE;
        }
        boolean good = reckonArrivals(n);
        tape.clear();
        if (!good) {
            return NOT_SO;
        }
        int above = 0;
        int below = 1;
        for (int i = 0; i < n; i++) {
            below *= 10;
        }
        for (int i = many; i <= n; i++) {
            if (what < 2 || i == many) {
                above += row[i];
            }
        }
        int divisor = commonDivisor(above, below);
        if (divisor < 1) {
            return NONE;
        }
        return what % 2 == 0 ? above / divisor : below / divisor;
    }

    /** Promise 30. Along a rail the ants come to a chair from the side of their first one alone. */
    public int ants(int from, int what) {
        if (!within(from, 0, CHAIRS - 1) || !within(what, 0, CHAIRS) || !tape.has(CHAIRS)) {
            return NONE;
        }
        boolean good = true;
        for (int c = 0; c < CHAIRS; c++) {
            row[c] = tape.byteAt(c);
            good = good && within(row[c], 1, MOST);
        }
        tape.clear();
        if (!good) {
            return NOT_SO;
        }
        for (int c = from + 1; c < CHAIRS; c++) {
            row[c] += row[c - 1];
        }
        for (int c = from - 1; c >= 0; c--) {
            row[c] += row[c + 1];
        }
        if (what < CHAIRS) {
            return row[what];
        }
        int last = 0;
        for (int c = 1; c < CHAIRS; c++) {
            last = row[c] > row[last] ? c : last;
        }
        return last;
    }

    /** Promise 31. */
    public boolean seed(int x) {
        if (!within(x, 0, 65535)) {
            return false;
        }
        now.drawn = x;
        return true;
    }

    /** Promise 32. */
    public int keep() {
        kept.copy(now);
        isKept = true;
        return now.day;
    }

    /** Promise 33. */
    public boolean undo() {
        if (!isKept) {
            return false;
        }
        now.copy(kept);
        return true;
    }

    /** Promise 34. */
    public int check(int side, int n) {
        if (!isSide(side) || !within(n, 0, CHAIRS) || !tape.has(n)) {
            return NOT_SO;
        }
        int wrong = NONE;
        for (int c = 0; c < n && wrong == NONE; c++) {
            int place = side * CHAIRS + c;
            int due = now.state[place] == EMPTY ? 0 : now.boredom[place];
            if (tape.byteAt(c) != due) {
                wrong = c;
            }
        }
        tape.clear();
        return wrong;
    }

    /** Promise 35. */
    public int count(int what) {
        if (within(what, 100, 100 + COLUMNS - 1)) {
            return valley.columns[what - 100];
        }
        if (within(what, 10, 15)) {
            return countOfSide(0, what - 10);
        }
        if (within(what, 20, 25)) {
            return countOfSide(1, what - 20);
        }
        switch (what) {
            case 0:
                return now.day;
            case 1:
                return now.watch;
            case 2:
                return now.lost;
            case 3:
                return rules.many;
            case 4:
                return tape.many;
            case 5:
                return now.drawn;
            default:
                return NONE;
        }
    }

    private int countOfSide(int side, int what) {
        switch (what) {
            case 0:
                return now.gentlemen(side);
            case 1:
                return now.bits(side, SITS);
            case 2:
                return now.bits(side, DINNER);
            case 3:
                return now.bits(side, IN);
            case 4:
                return valley.floors[side];
            default:
                return signalsOf(side).many;
        }
    }

    private static boolean within(int x, int least, int most) {
        return x >= least && x <= most;
    }

    private static boolean isSide(int side) {
        return side == 0 || side == 1;
    }

    private static boolean isChair(int side, int c) {
        return isSide(side) && within(c, 0, CHAIRS - 1);
    }

    private boolean isGentleman(int side, int c) {
        return isChair(side, c) && now.state[side * CHAIRS + c] != EMPTY;
    }

    private Signals signalsOf(int side) {
        return side == 0 ? near : far;
    }

    private void tryWatches(int n) {
        trial.copy(now);
        course.run(trial, rules, n);
    }

    private int crests() {
        int highest = NONE;
        int many = 0;
        for (int i = 0; i < COLUMNS; i++) {
            if (valley.columns[i] > highest) {
                highest = valley.columns[i];
                many++;
            }
        }
        return many;
    }

    private int longestRise() {
        int longest = 0;
        for (int i = 0; i < COLUMNS; i++) {
            row[i] = 1;
            for (int j = 0; j < i; j++) {
                if (valley.columns[j] < valley.columns[i] && row[j] >= row[i]) {
                    row[i] = row[j] + 1;
                }
            }
            longest = Math.max(longest, row[i]);
        }
        return longest;
    }

    /** Puts into the row in how many of 10 to the n cases exactly 0, 1, .. of n parrots arrive. */
    private boolean reckonArrivals(int n) {
        Arrays.fill(row, 0);
        row[0] = 1;
        for (int i = 0; i < n; i++) {
            int tenths = tape.byteAt(i);
            if (!within(tenths, 0, 10)) {
                return false;
            }
            for (int k = i + 1; k >= 1; k--) {
                row[k] = row[k] * (10 - tenths) + row[k - 1] * tenths;
            }
            row[0] *= 10 - tenths;
        }
        return true;
    }

    private static int commonDivisor(int a, int b) {
        int larger = a;
        int smaller = b;
        for (int i = 0; i < 100 && smaller != 0; i++) {
            int rest = larger % smaller;
            larger = smaller;
            smaller = rest;
        }
        return larger;
    }

    /** What is kept and undone. A place is 8 times the side, and the chair. */
    private static final class War {
        final int[] rank = new int[PLACES];
        final int[] boredom = new int[PLACES];
        final int[] lemonade = new int[PLACES];
        /** Of the chair, not of who is in it: they stay where they are, in an empty chair too. */
        final int[] cushions = new int[PLACES];
        final int[] state = new int[PLACES];
        int watch = 0;
        int day = 0;
        int drawn = 1;
        int lost = 0;

        War() {
            Arrays.fill(state, EMPTY);
        }

        void copy(War other) {
            System.arraycopy(other.rank, 0, rank, 0, PLACES);
            System.arraycopy(other.boredom, 0, boredom, 0, PLACES);
            System.arraycopy(other.lemonade, 0, lemonade, 0, PLACES);
            System.arraycopy(other.cushions, 0, cushions, 0, PLACES);
            System.arraycopy(other.state, 0, state, 0, PLACES);
            watch = other.watch;
            day = other.day;
            drawn = other.drawn;
            lost = other.lost;
        }

        void seat(int place, int itsRank, int itsLemonade, int itsCushions) {
            rank[place] = itsRank;
            boredom[place] = 0;
            lemonade[place] = itsLemonade;
            cushions[place] = itsCushions;
            state[place] = SITS;
        }

        void change(int place, int other) {
            turn(rank, place, other);
            turn(boredom, place, other);
            turn(lemonade, place, other);
            turn(state, place, other);
        }

        private static void turn(int[] values, int place, int other) {
            int value = values[place];
            values[place] = values[other];
            values[other] = value;
        }

        int bits(int side, int which) {
            int bits = 0;
            for (int c = 0; c < CHAIRS; c++) {
                if (state[side * CHAIRS + c] == which) {
                    bits |= 1 << c;
                }
            }
            return bits;
        }

        int gentlemen(int side) {
            return 255 & ~bits(side, EMPTY);
        }

        /** The sides (bits) that have a gentleman who is not in. */
        int sidesOut() {
            int sides = 0;
            for (int place = 0; place < PLACES; place++) {
                if (state[place] == SITS || state[place] == DINNER) {
                    sides |= 1 << place / CHAIRS;
                }
            }
            return sides;
        }

        int draw() {
            drawn = (25173 * drawn + 13849) & 65535;
            return drawn % 10;
        }

        boolean goesOn() {
            return lost == 0 && day < LAST_DAY;
        }

        void nextWatch() {
            watch++;
            if (watch > NIGHT) {
                watch = 0;
                day++;
            }
        }
    }

    /** Floors, columns, and who sees whom over them. */
    private static final class Valley {
        final int[] columns = new int[COLUMNS];
        final int[] floors = new int[2];
        /** By places, whom across each gentleman sees (bits of chairs), as it was when somebody looked around. */
        final int[] sight = new int[PLACES];

        Valley() {
            floors[0] = 50;
            floors[1] = 50;
        }

        int eye(int side, int cushions) {
            return floors[side] + 5 * cushions;
        }

        /** Whether the line between an eye of side 0 and one of side 1 is free, a column being cut (or none). */
        boolean isFree(int nearEye, int farEye, int cut) {
            for (int i = 0; i < COLUMNS; i++) {
                int height = i == cut ? 0 : columns[i];
                if (25 * height >= (24 - i) * nearEye + (i + 1) * farEye) {
                    return false;
                }
            }
            return true;
        }

        boolean sighted(War war, int c, int e) {
            return isFree(eye(0, war.cushions[c]), eye(1, war.cushions[CHAIRS + e]), NONE);
        }

        void lookAround(War war) {
            Arrays.fill(sight, 0);
            for (int c = 0; c < CHAIRS; c++) {
                for (int e = 0; e < CHAIRS; e++) {
                    boolean both = war.state[c] != EMPTY && war.state[CHAIRS + e] != EMPTY;
                    if (both && sighted(war, c, e)) {
                        sight[c] |= 1 << e;
                        sight[CHAIRS + e] |= 1 << c;
                    }
                }
            }
        }

        /** Whom those of side 0 (bits) see across, all together. */
        int seenBy(int those) {
            int seen = 0;
            for (int c = 0; c < CHAIRS; c++) {
                if ((those >> c & 1) == 1) {
                    seen |= sight[c];
                }
            }
            return seen;
        }

        int twos(War war, int cut) {
            int twos = 0;
            for (int c = 0; c < CHAIRS; c++) {
                for (int e = 0; e < CHAIRS; e++) {
                    boolean both = war.state[c] == SITS && war.state[CHAIRS + e] == SITS;
                    if (both && isFree(eye(0, war.cushions[c]), eye(1, war.cushions[CHAIRS + e]), cut)) {
                        twos++;
                    }
                }
            }
            return twos;
        }
    }

    /** The tape, and a reader's place on it: what is read ends at the end, the first fault is remembered. */
    private static final class Tape {
        final int[] bytes = new int[260];
        int many = 0;
        int end = 0;
        int at = 0;
        int fault = 0;

        boolean hasRoom(int n) {
            return many + n <= bytes.length;
        }

        boolean has(int n) {
            return n <= many;
        }

        void add(int word) {
            for (int shift = 24; shift >= 0 && many < bytes.length; shift -= 8) {
                bytes[many] = word >> shift & 255;
                many++;
            }
        }

        void clear() {
            many = 0;
        }

        int byteAt(int i) {
            return i >= 0 && i < bytes.length ? bytes[i] : NONE;
        }

        void begin(int n) {
            end = n;
            at = 0;
            fault = 0;
        }

        /** The byte that is next; NONE at the end. */
        int here() {
            return at < end && at < bytes.length ? bytes[at] : NONE;
        }

        boolean takes(int sign) {
            if (here() != sign) {
                return false;
            }
            at++;
            return true;
        }

        /** The digit that is next; NONE if there is none. */
        int digit() {
            int sign = here();
            return sign >= '0' && sign <= '9' ? sign - '0' : NONE;
        }

        /** Takes a number of one digit to so many; NONE if there is a fault. */
        int number(int most) {
            if (digit() == NONE) {
                refuse(FAULT_PLACE);
                return NONE;
            }
            int number = 0;
            for (int i = 0; i <= most && digit() != NONE; i++) {
                if (i == most) {
                    refuse(FAULT_DIGITS);
                    return NONE;
                }
                number = 10 * number + digit();
                at++;
            }
            return number;
        }

        boolean refuse(int kind) {
            return refuseAt(kind, at);
        }

        boolean refuseAt(int kind, int place) {
            fault = -1000 * kind - place;
            return false;
        }
    }

    /**
     * The law as code for a machine with a stack. Of each rule the code of its E comes first, that of its C behind
     * it; AND and OR leave the answer on the stack and jump over what need not be asked any more.
     */
    private static final class Law {
        static final int MOST_RULES = 16;
        static final int MOST_CODE = 240;
        static final int LETTERS = 11;

        static final int NUMBER = 'n';
        static final int LETTER = 'l';
        static final int AND = '&';
        static final int OR = '|';
        static final int NOT = '!';

        final int[] code = new int[MOST_CODE];
        final int[] with = new int[MOST_CODE];
        final int[] letter = new int[MOST_RULES];
        final int[] amountFrom = new int[MOST_RULES];
        final int[] testFrom = new int[MOST_RULES];
        final int[] testEnd = new int[MOST_RULES];
        /** What the letters of the law stand for, in the order s c k a l u n o v h d. */
        final int[] values = new int[LETTERS];
        /** Far more than six open brackets can need. */
        final int[] stack = new int[64];
        int many = 0;
        int size = 0;
        private boolean refused = false;

        void begin() {
            many = 0;
            size = 0;
        }

        int add(int what, int itsWith) {
            if (size < MOST_CODE) {
                code[size] = what;
                with[size] = itsWith;
                size++;
            }
            return size - 1;
        }

        void jumpHere(int from) {
            if (from >= 0 && from < MOST_CODE) {
                with[from] = size;
            }
        }

        /** The E of the first rule of a letter whose C holds, within 0 and a bound. */
        int amount(int which, int bound) {
            for (int i = 0; i < many; i++) {
                if (letter[i] == which && reckon(testFrom[i], testEnd[i]) != 0 && !refused) {
                    int amount = reckon(amountFrom[i], testFrom[i]);
                    return refused ? 0 : Math.max(0, Math.min(bound, amount));
                }
            }
            return 0;
        }

        boolean sendsIn() {
            for (int i = 0; i < many; i++) {
                if (letter[i] == 'x' && reckon(testFrom[i], testEnd[i]) != 0 && !refused) {
                    return true;
                }
            }
            return false;
        }

        private int reckon(int from, int to) {
            int top = -1;
            refused = false;
            int at = from;
            for (int i = 0; i < MOST_CODE && at >= 0 && at < to && at < MOST_CODE && !refused; i++) {
                int what = code[at];
                boolean jumps = false;
                if (what == NUMBER || what == LETTER) {
                    top = push(top, what == NUMBER ? with[at] : valueOf(with[at]));
                } else if (top < 0) {
                    return 0;
                } else if (what == NOT) {
                    stack[top] = 1 - stack[top];
                } else if (what == AND || what == OR) {
                    jumps = (stack[top] != 0) == (what == OR);
                    top = jumps ? top : top - 1;
                } else if (top > 0) {
                    stack[top - 1] = combine(what, stack[top - 1], stack[top]);
                    top--;
                }
                at = jumps ? with[at] : at + 1;
            }
            return top >= 0 ? stack[top] : 0;
        }

        private int push(int top, int value) {
            if (top + 1 >= stack.length) {
                return top;
            }
            stack[top + 1] = value;
            return top + 1;
        }

        private int valueOf(int which) {
            return which >= 0 && which < LETTERS ? values[which] : 0;
        }

        private int combine(int what, int a, int b) {
            switch (what) {
                case '+':
                    return a + b;
                case '-':
                    return a - b;
                case '*':
                    return a * b;
                case '<':
                    return a < b ? 1 : 0;
                case '>':
                    return a > b ? 1 : 0;
                case '=':
                    return a == b ? 1 : 0;
                default:
                    refused = b == 0;
                    return refused ? 0 : what == '/' ? a / b : a % b;
            }
        }
    }

    /** Reads a law from the tape. Each method answers whether it found what it reads; if not, the tape has a fault. */
    private static final class LawReader {
        private static final int MOST_OPEN = 6;
        private static final int MOST_DIGITS = 5;
        private static final String VALUES = "sckalunovhd";

        private final Tape tape;
        private Law into;

        LawReader(Tape tape, Law law) {
            this.tape = tape;
            into = law;
        }

        boolean readInto(Law law, int n) {
            into = law;
            into.begin();
            tape.begin(n);
            for (int i = 0; i <= Law.MOST_RULES; i++) {
                int letter = tape.here();
                if (letter != 'b' && letter != 't' && letter != 'w' && letter != 'x') {
                    return tape.refuse(FAULT_PLACE);
                }
                if (i == Law.MOST_RULES) {
                    return tape.refuse(FAULT_MANY);
                }
                if (!readRule(i, letter)) {
                    return false;
                }
                if (tape.here() == NONE) {
                    return true;
                }
                if (!tape.takes(';')) {
                    return tape.refuse(FAULT_PLACE);
                }
            }
            return false;
        }

        private boolean readRule(int i, int letter) {
            if (i < 0 || i >= Law.MOST_RULES) {
                return false;
            }
            tape.at++;
            into.letter[i] = letter;
            into.amountFrom[i] = into.size;
            if (letter != 'x' && !readAmount(0)) {
                return false;
            }
            into.testFrom[i] = into.size;
            if (!tape.takes('(')) {
                return tape.refuse(FAULT_PLACE);
            }
            if (!readChoice(1) || !readClosing(')')) {
                return false;
            }
            into.testEnd[i] = into.size;
            into.many = i + 1;
            return true;
        }

        private boolean readClosing(int sign) {
            return tape.takes(sign) || tape.refuse(FAULT_PLACE);
        }

        /** A C, with so many of ( [ ! open around it. */
        private boolean readChoice(int open) {
            if (!readPart(open)) {
                return false;
            }
            for (int i = 0; i < Law.MOST_CODE && tape.takes('|'); i++) {
                int jump = into.add(Law.OR, 0);
                if (!readPart(open)) {
                    return false;
                }
                into.jumpHere(jump);
            }
            return true;
        }

        private boolean readPart(int open) {
            if (!readTest(open)) {
                return false;
            }
            for (int i = 0; i < Law.MOST_CODE && tape.takes('&'); i++) {
                int jump = into.add(Law.AND, 0);
                if (!readTest(open)) {
                    return false;
                }
                into.jumpHere(jump);
            }
            return true;
        }

        private boolean readTest(int open) {
            if (tape.here() == '!' || tape.here() == '(') {
                return readOpened(open);
            }
            if (!readAmount(open)) {
                return false;
            }
            int sign = tape.here();
            if (sign != '<' && sign != '>' && sign != '=') {
                return tape.refuse(FAULT_PLACE);
            }
            tape.at++;
            if (!readAmount(open)) {
                return false;
            }
            into.add(sign, 0);
            return true;
        }

        /** A test that begins with ! or (, with so many open around it. */
        private boolean readOpened(int open) {
            if (open >= MOST_OPEN) {
                return tape.refuse(FAULT_DEEP);
            }
            if (tape.takes('(')) {
                return readChoice(open + 1) && readClosing(')');
            }
            tape.at++;
            if (!readTest(open + 1)) {
                return false;
            }
            into.add(Law.NOT, 0);
            return true;
        }

        /** An E, with so many of ( [ ! open around it. */
        private boolean readAmount(int open) {
            if (!readTerm(open)) {
                return false;
            }
            for (int i = 0; i < Law.MOST_CODE; i++) {
                int sign = tape.here();
                if (sign != '+' && sign != '-') {
                    return true;
                }
                tape.at++;
                if (!readTerm(open)) {
                    return false;
                }
                into.add(sign, 0);
            }
            return true;
        }

        private boolean readTerm(int open) {
            if (!readFactor(open)) {
                return false;
            }
            for (int i = 0; i < Law.MOST_CODE; i++) {
                int sign = tape.here();
                if (sign != '*' && sign != '/' && sign != '%') {
                    return true;
                }
                tape.at++;
                if (!readFactor(open)) {
                    return false;
                }
                into.add(sign, 0);
            }
            return true;
        }

        private boolean readFactor(int open) {
            if (tape.here() == '[') {
                if (open >= MOST_OPEN) {
                    return tape.refuse(FAULT_DEEP);
                }
                tape.at++;
                return readAmount(open + 1) && readClosing(']');
            }
            if (tape.digit() != NONE) {
                int number = tape.number(MOST_DIGITS);
                into.add(Law.NUMBER, number);
                return number >= 0;
            }
            int which = tape.here() == NONE ? NONE : VALUES.indexOf((char) tape.here());
            if (which < 0) {
                return tape.refuse(FAULT_PLACE);
            }
            tape.at++;
            into.add(Law.LETTER, which);
            return true;
        }
    }

    /** Reads orders from the tape and does them, line by line, with a war that is thrown away if there is a fault. */
    private static final class OrdersReader {
        private static final int MOST_LINES = 20;
        private static final int MOST_DIGITS = 2;

        private final Tape tape;
        int lines = 0;

        OrdersReader(Tape tape) {
            this.tape = tape;
        }

        boolean readOnto(War war, int n) {
            tape.begin(n);
            for (lines = 0; lines <= MOST_LINES; lines++) {
                int sign = tape.here();
                if (sign != '<' && sign != '>') {
                    return tape.refuse(FAULT_PLACE);
                }
                if (lines == MOST_LINES) {
                    return tape.refuse(FAULT_MANY);
                }
                tape.at++;
                if (!readLine(war, sign == '<' ? 0 : 1)) {
                    return false;
                }
                if (tape.here() == NONE) {
                    lines++;
                    return true;
                }
                if (!tape.takes(';')) {
                    return tape.refuse(FAULT_PLACE);
                }
            }
            return false;
        }

        private boolean readLine(War war, int side) {
            int c = tape.digit();
            if (!within(c, 0, CHAIRS - 1)) {
                return tape.refuse(FAULT_PLACE);
            }
            int place = side * CHAIRS + c;
            if (war.state[place] == EMPTY) {
                return tape.refuse(FAULT_EMPTY);
            }
            tape.at++;
            int deed = tape.here();
            switch (deed) {
                case 'L':
                case 'C':
                    tape.at++;
                    return readGift(war, place, deed);
                case 'G':
                    tape.at++;
                    return readChange(war, place);
                case 'I':
                    tape.at++;
                    war.state[place] = IN;
                    return true;
                case 'O':
                    tape.at++;
                    war.boredom[place] = war.state[place] == IN ? 0 : war.boredom[place];
                    war.state[place] = SITS;
                    return true;
                default:
                    return tape.refuse(FAULT_PLACE);
            }
        }

        private boolean readGift(War war, int place, int deed) {
            int from = tape.at;
            int number = tape.number(MOST_DIGITS);
            if (number == NONE) {
                return false;
            }
            if (deed == 'L') {
                war.lemonade[place] = Math.min(MOST, war.lemonade[place] + number);
                return true;
            }
            if (number > MOST_CUSHIONS) {
                return tape.refuseAt(FAULT_CUSHIONS, from);
            }
            war.cushions[place] = number;
            return true;
        }

        private boolean readChange(War war, int place) {
            int c = tape.digit();
            if (!within(c, 0, CHAIRS - 1)) {
                return tape.refuse(FAULT_PLACE);
            }
            int other = place / CHAIRS * CHAIRS + c;
            tape.at++;
            war.change(place, other);
            return true;
        }
    }

    /** Watches that go by, really or as a trial, and what came of them. */
    private static final class Course {
        private final Valley valley;
        /** By places, behind how many watches one went in; 0 if he did not. */
        final int[] behind = new int[PLACES];
        int wentIn = 0;
        int dinners = 0;
        int drunk = 0;
        int firstIn = NONE;
        int lostBehind = 0;

        Course(Valley valley) {
            this.valley = valley;
        }

        void run(War war, Law law, int n) {
            Arrays.fill(behind, 0);
            wentIn = 0;
            dinners = 0;
            drunk = 0;
            firstIn = NONE;
            lostBehind = 0;
            valley.lookAround(war);
            for (int i = 1; i <= n && war.goesOn(); i++) {
                passWatch(war, law, i);
            }
        }

        private void passWatch(War war, Law law, int number) {
            int began = war.sidesOut();
            for (int place = 0; place < PLACES; place++) {
                war.state[place] = war.state[place] == DINNER ? SITS : war.state[place];
            }
            for (int place = 0; place < PLACES; place++) {
                if (war.state[place] == SITS) {
                    drinkAndYawn(war, law, place);
                    stayOrGo(war, law, place, number);
                }
            }
            war.lost = began & ~war.sidesOut();
            if (war.lost != 0) {
                lostBehind = number;
            }
            war.nextWatch();
        }

        /** A draw is made for everybody who does not go in, even where w is 0. */
        private void stayOrGo(War war, Law law, int place, int number) {
            look(war, law, place);
            if (war.boredom[place] >= MOST || war.lemonade[place] <= 0 || law.sendsIn()) {
                war.state[place] = IN;
                behind[place] = number;
                wentIn++;
                firstIn = firstIn == NONE ? place : firstIn;
            } else if (war.draw() < law.amount('w', 10)) {
                war.state[place] = DINNER;
                dinners++;
            }
        }

        private void drinkAndYawn(War war, Law law, int place) {
            look(war, law, place);
            int bored = law.amount('b', MOST);
            int thirst = Math.min(war.lemonade[place], law.amount('t', MOST));
            war.boredom[place] = Math.min(MOST, war.boredom[place] + bored);
            war.lemonade[place] -= thirst;
            drunk += thirst;
        }

        /** Tells the law what its letters stand for, as one in a place would see it. */
        private void look(War war, Law law, int place) {
            int side = place / CHAIRS;
            int across = war.bits(1 - side, SITS);
            int[] values = law.values;
            values[0] = side;
            values[1] = place % CHAIRS;
            values[2] = war.rank[place];
            values[3] = war.boredom[place];
            values[4] = war.lemonade[place];
            values[5] = war.cushions[place];
            values[6] = Integer.bitCount(war.bits(side, SITS));
            values[7] = Integer.bitCount(across);
            values[8] = Integer.bitCount(valley.sight[place] & across);
            values[9] = war.watch;
            values[10] = war.day % 100;
        }

        /** Whether one's lemonade stays above 0 for n watches (whoever calls has looked around the valley). */
        boolean outlasts(War war, Law law, int place, int n) {
            for (int i = 0; i < n; i++) {
                drinkAndYawn(war, law, place);
                if (war.lemonade[place] <= 0) {
                    return false;
                }
                war.nextWatch();
            }
            return true;
        }
    }

    /** Lamps of a side, written out: 0 dark, 1 to 5. */
    private static final class Signals {
        static final int MOST_LAMPS = 60;
        private static final int MOST_OPEN = 2;
        private static final int MOST_TEXT = 40;

        final int[] lamps = new int[MOST_LAMPS];
        int many = 0;

        void copy(Signals other) {
            System.arraycopy(other.lamps, 0, lamps, 0, MOST_LAMPS);
            many = other.many;
        }

        boolean readFrom(Tape tape, int n) {
            tape.begin(n);
            many = 0;
            if (!readLamps(tape, 0)) {
                return false;
            }
            return tape.here() == NONE || tape.refuse(FAULT_PLACE);
        }

        /** One lamp or round at least, with so many ( open around. */
        private boolean readLamps(Tape tape, int open) {
            for (int i = 0; i < MOST_TEXT; i++) {
                if (!readItem(tape, open)) {
                    return false;
                }
                if (tape.here() == NONE || tape.here() == ')') {
                    return true;
                }
            }
            return true;
        }

        private boolean readItem(Tape tape, int open) {
            int start = tape.at;
            int times = 1;
            if (tape.digit() >= 2) {
                times = tape.digit();
                tape.at++;
            }
            int from = many;
            int sign = tape.here();
            if (sign == '(') {
                if (open >= MOST_OPEN) {
                    return tape.refuse(FAULT_DEEP);
                }
                tape.at++;
                if (!readLamps(tape, open + 1)) {
                    return false;
                }
                if (!tape.takes(')')) {
                    return tape.refuse(FAULT_PLACE);
                }
                return repeat(from, times - 1) || tape.refuseAt(FAULT_LAMPS, start);
            }
            if (sign != '.' && !within(sign, 'a', 'e')) {
                return tape.refuse(FAULT_PLACE);
            }
            tape.at++;
            if (many >= MOST_LAMPS) {
                return tape.refuseAt(FAULT_LAMPS, start);
            }
            lamps[many] = sign == '.' ? 0 : sign - 'a' + 1;
            many++;
            return repeat(from, times - 1) || tape.refuseAt(FAULT_LAMPS, start);
        }

        /** Puts so many copies of the lamps from a place on behind them; false if there is no room. */
        private boolean repeat(int from, int times) {
            int more = (many - from) * times;
            if (from < 0 || more < 0 || many + more > MOST_LAMPS) {
                return false;
            }
            int length = many - from;
            for (int i = 0; i < more; i++) {
                lamps[many] = lamps[many - length];
                many++;
            }
            return true;
        }

        boolean repeatsAfter(int length) {
            for (int i = 0; i + length < many; i++) {
                if (lamps[i] != lamps[i + length]) {
                    return false;
                }
            }
            return true;
        }

        int howOften(int sign) {
            int often = 0;
            for (int i = 0; i < many; i++) {
                often += lamps[i] == sign ? 1 : 0;
            }
            return often;
        }

        /** The first place from one on where a sign is; many if there is none. */
        int next(int sign, int from) {
            for (int i = from; i < many; i++) {
                if (lamps[i] == sign) {
                    return i;
                }
            }
            return many;
        }
    }

    /** What two signals have in one order. */
    private static final class Common {
        private static final int WIDE = Signals.MOST_LAMPS + 1;

        /** At WIDE times i, and j: the longest in common of the lamps from i, and from j on. */
        private final int[] longest = new int[WIDE * WIDE];

        void compare(Signals a, Signals b) {
            for (int i = a.many; i >= 0; i--) {
                for (int j = b.many; j >= 0; j--) {
                    longest[i * WIDE + j] = reckon(a, b, i, j);
                }
            }
        }

        private int reckon(Signals a, Signals b, int i, int j) {
            if (i >= a.many || j >= b.many) {
                return 0;
            }
            if (a.lamps[i] == b.lamps[j]) {
                return longest[(i + 1) * WIDE + j + 1] + 1;
            }
            return Math.max(longest[(i + 1) * WIDE + j], longest[i * WIDE + j + 1]);
        }

        int length() {
            return longest[0];
        }

        /** The lamp at a place of the least one: each lamp is the least with which the whole length is still met. */
        int lampAt(Signals a, Signals b, int place) {
            if (place >= length()) {
                return NO_PLACE;
            }
            int i = 0;
            int j = 0;
            int sign = 0;
            for (int k = 0; k <= place; k++) {
                sign = leastSign(a, b, i, j);
                i = Math.min(a.many, a.next(sign, i) + 1);
                j = Math.min(b.many, b.next(sign, j) + 1);
            }
            return sign;
        }

        private int leastSign(Signals a, Signals b, int i, int j) {
            for (int sign = 0; sign < 5; sign++) {
                int ahead = a.next(sign, i);
                int across = b.next(sign, j);
                if (ahead < a.many && across < b.many
                        && longest[(ahead + 1) * WIDE + across + 1] + 1 == longest[i * WIDE + j]) {
                    return sign;
                }
            }
            return 5;
        }
    }

    /**
     * Who gives his glass to whom. If two give theirs crosswise, changing that makes the way no longer and the row
     * less; so the least row never has any crossing, and it is enough to go along both rails once.
     */
    private static final class Glasses {
        static final int NOBODY = 8;
        private static final int WIDE = CHAIRS + 1;
        private static final int TOO_FAR = 1000;

        /** At WIDE times c, and e: the least way for the chairs from c, and from e on. */
        private final int[] way = new int[WIDE * WIDE];
        final int[] whom = new int[CHAIRS];
        private int here = 0;
        private int across = 0;

        void carry(int sitHere, int sitAcross) {
            here = sitHere;
            across = sitAcross;
            for (int c = CHAIRS; c >= 0; c--) {
                for (int e = CHAIRS; e >= 0; e--) {
                    way[c * WIDE + e] = leastWay(c, e);
                }
            }
            int e = 0;
            for (int c = 0; c < CHAIRS; c++) {
                whom[c] = leastPartner(c, e);
                e = whom[c] == NOBODY ? e : whom[c] + 1;
            }
        }

        int apart() {
            return way[0];
        }

        int twos() {
            return Math.min(Integer.bitCount(here), Integer.bitCount(across));
        }

        private int leastWay(int c, int e) {
            if (c >= CHAIRS && e >= CHAIRS) {
                return 0;
            }
            int least = TOO_FAR;
            if (c < CHAIRS && mayPass(here, across, c)) {
                least = Math.min(least, way[(c + 1) * WIDE + e]);
            }
            if (e < CHAIRS && mayPass(across, here, e)) {
                least = Math.min(least, way[c * WIDE + e + 1]);
            }
            if (c < CHAIRS && e < CHAIRS && sits(here, c) && sits(across, e)) {
                least = Math.min(least, Math.abs(c - e) + way[(c + 1) * WIDE + e + 1]);
            }
            return least;
        }

        /** Whether the one in a chair can be left out: he is not there, or his side has more than the other one. */
        private static boolean mayPass(int own, int other, int c) {
            return !sits(own, c) || Integer.bitCount(own) > Integer.bitCount(other);
        }

        private static boolean sits(int side, int c) {
            return (side >> c & 1) == 1;
        }

        private int leastPartner(int c, int from) {
            if (!sits(here, c)) {
                return NOBODY;
            }
            for (int e = from; e < CHAIRS; e++) {
                if (sits(across, e)
                        && Math.abs(c - e) + way[(c + 1) * WIDE + e + 1] == way[c * WIDE + from]) {
                    return e;
                }
                if (!mayPass(across, here, e)) {
                    return NOBODY;
                }
            }
            return NOBODY;
        }
    }

    /** Four hands; a slot is 3 times the player, and the number of the card in the hand. */
    private static final class Bridge {
        private static final int PLAYERS = 4;
        private static final int HAND = 3;

        private final int[] cards = new int[PLAYERS * HAND];
        private int trumps = 0;
        private int dealt = 0;
        int tricks = 0;
        int card = 0;

        /** False if a card is none, or there twice. */
        boolean deal(Tape tape, int n, int itsTrumps) {
            trumps = itsTrumps;
            dealt = 0;
            long seen = 0;
            for (int i = 0; i < PLAYERS * n && n >= 1 && n <= HAND; i++) {
                int next = tape.byteAt(i);
                if (next < 0 || next > 51 || (seen >> next & 1) == 1) {
                    return false;
                }
                seen |= 1L << next;
                int slot = i / n * HAND + i % n;
                cards[slot] = next;
                dealt |= 1 << slot;
            }
            return true;
        }

        void playFrom(int leads) {
            card = NONE;
            for (int slot = leads * HAND; slot < leads * HAND + HAND && slot < cards.length; slot++) {
                if (isLeft(dealt, slot)) {
                    int value = lay(dealt, slot, 0, 0, 0);
                    boolean better = card == NONE || isBetter(leads, value, tricks);
                    if (better || value == tricks && cards[slot] < card) {
                        tricks = value;
                        card = cards[slot];
                    }
                }
            }
        }

        /** The tricks of 0 and 2 if a slot's card is laid as one more of so many, others having led and being high. */
        private int lay(int left, int slot, int laid, int led, int high) {
            int newLed = laid == 0 ? slot : led;
            int newHigh = laid == 0 || beats(slot, high) ? slot : high;
            int rest = left & ~(1 << slot);
            if (laid < PLAYERS - 1) {
                return playBest(rest, (slot / HAND + 1) % PLAYERS, laid + 1, newLed, newHigh);
            }
            int winner = newHigh / HAND;
            int won = winner % 2 == 0 ? 1 : 0;
            return rest == 0 ? won : won + playBest(rest, winner, 0, 0, 0);
        }

        private int playBest(int left, int player, int laid, int led, int high) {
            boolean follows = laid > 0 && hasSuit(left, player, suit(led));
            int best = NONE;
            for (int slot = player * HAND; slot < player * HAND + HAND && slot < cards.length; slot++) {
                if (isLeft(left, slot) && (!follows || suit(slot) == suit(led))) {
                    int value = lay(left, slot, laid, led, high);
                    best = best == NONE || isBetter(player, value, best) ? value : best;
                }
            }
            return Math.max(0, best);
        }

        private static boolean isLeft(int left, int slot) {
            return (left >> slot & 1) == 1;
        }

        private static boolean isBetter(int player, int value, int best) {
            return player % 2 == 0 ? value > best : value < best;
        }

        private boolean hasSuit(int left, int player, int which) {
            for (int slot = player * HAND; slot < player * HAND + HAND && slot < cards.length; slot++) {
                if (isLeft(left, slot) && suit(slot) == which) {
                    return true;
                }
            }
            return false;
        }

        private int suit(int slot) {
            return cards[slot] / 13;
        }

        private boolean beats(int slot, int high) {
            return suit(slot) == suit(high) ? cards[slot] > cards[high] : suit(slot) == trumps;
        }
    }
}
