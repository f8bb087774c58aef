import java.math.BigInteger;
import java.util.ArrayList;
import java.util.Arrays;
import java.util.Collections;
import java.util.List;

/**
 * A second program for the document, as plain as it can be: it tries out all cases, and uses the library and exceptions
 * freely. It shares no code with VerandaWar; ModelTest compares both.
 */
final class SlowWar {
    private static final class Fault extends RuntimeException {
        private static final long serialVersionUID = 1L;
        final int code;

        Fault(int kind, int place) {
            code = -1000 * kind - place;
        }
    }

    private static final class Refused extends RuntimeException {
        private static final long serialVersionUID = 1L;
    }

    private static final class Man {
        int rank;
        int boredom;
        int lemonade;
        String state = "sits";

        Man copy() {
            Man man = new Man();
            man.rank = rank;
            man.boredom = boredom;
            man.lemonade = lemonade;
            man.state = state;
            return man;
        }

        boolean sits() {
            return state.equals("sits");
        }

        boolean in() {
            return state.equals("in");
        }
    }

    private static final class State {
        Man[][] men = new Man[2][8];
        int[][] cushions = new int[2][8];
        int watch;
        int day;
        int x = 1;
        int lost;

        State copy() {
            State state = new State();
            for (int s = 0; s < 2; s++) {
                for (int c = 0; c < 8; c++) {
                    state.men[s][c] = men[s][c] == null ? null : men[s][c].copy();
                    state.cushions[s][c] = cushions[s][c];
                }
            }
            state.watch = watch;
            state.day = day;
            state.x = x;
            state.lost = lost;
            return state;
        }

        int bits(int side, String which) {
            int bits = 0;
            for (int c = 0; c < 8; c++) {
                if (men[side][c] != null && men[side][c].state.equals(which)) {
                    bits += 1 << c;
                }
            }
            return bits;
        }
    }

    private interface Num {
        int of(State state, int side, int c);
    }

    private interface Cond {
        boolean of(State state, int side, int c);
    }

    private record Rule(char letter, Num amount, Cond test) {
    }

    private record Event(String what, int watch, int side, int c) {
    }

    private State now = new State();
    private State kept;
    private final int[] floor = {50, 50};
    private final int[] column = new int[24];
    private String tape = "";
    private List<Rule> law = new ArrayList<>();
    private final String[] lamps = {"", ""};

    private String text;
    private int at;

    boolean chair(int side, int c, int rank, int lemonade, int cushions) {
        if (side >> 1 != 0 || c >> 3 != 0 || rank < 0 || rank > 9 || lemonade < 0 || lemonade > 99 || cushions < 0
                || cushions > 9) {
            return false;
        }
        Man man = new Man();
        man.rank = rank;
        man.lemonade = lemonade;
        now.men[side][c] = man;
        now.cushions[side][c] = cushions;
        now.lost = 0;
        return true;
    }

    boolean floor(int side, int height) {
        if (side >> 1 != 0 || height < 0 || height > 99) {
            return false;
        }
        floor[side] = height;
        return true;
    }

    boolean column(int i, int height) {
        if (i < 0 || i > 23 || height < 0 || height > 199) {
            return false;
        }
        column[i] = height;
        return true;
    }

    int feed(int... words) {
        if (tape.length() + 20 > 260) {
            return -1;
        }
        for (int word : words) {
            for (int i = 3; i >= 0; i--) {
                tape += (char) (word >>> 8 * i & 255);
            }
        }
        return tape.length();
    }

    /** The first n bytes, the tape being empty then; null if that can't be. */
    private String take(int n, int least, int most) {
        if (n < least || n > most || n > tape.length()) {
            return null;
        }
        String taken = tape.substring(0, n);
        tape = "";
        return taken;
    }

    // The law.

    private char peek() {
        return at < text.length() ? text.charAt(at) : (char) 999;
    }

    private boolean isOneOf(String signs) {
        return signs.indexOf(peek()) >= 0;
    }

    private char next(String signs) {
        if (!isOneOf(signs)) {
            throw new Fault(1, at);
        }
        return text.charAt(at++);
    }

    private void open(int depth, int most) {
        if (depth > most) {
            throw new Fault(5, at);
        }
        at++;
    }

    private int number(int most) {
        int from = at;
        next("0123456789");
        while (isOneOf("0123456789")) {
            if (at - from == most) {
                throw new Fault(2, at);
            }
            at++;
        }
        return Integer.parseInt(text.substring(from, at));
    }

    int law(int n) {
        text = take(n, 1, 240);
        if (text == null) {
            return -1;
        }
        at = 0;
        try {
            List<Rule> rules = new ArrayList<>();
            do {
                int place = at;
                char letter = next("btwx");
                if (rules.size() == 16) {
                    throw new Fault(4, place);
                }
                Num amount = letter == 'x' ? null : amount(1);
                next("(");
                Cond test = choice(2);
                next(")");
                rules.add(new Rule(letter, amount, test));
            } while (at < text.length() && next(";") == ';');
            law = rules;
            return rules.size();
        } catch (Fault fault) {
            return fault.code;
        }
    }

    private Cond choice(int depth) {
        List<Cond> parts = new ArrayList<>();
        parts.add(part(depth));
        while (isOneOf("|")) {
            at++;
            parts.add(part(depth));
        }
        return (state, side, c) -> parts.stream().anyMatch(part -> part.of(state, side, c));
    }

    private Cond part(int depth) {
        List<Cond> tests = new ArrayList<>();
        tests.add(test(depth));
        while (isOneOf("&")) {
            at++;
            tests.add(test(depth));
        }
        return (state, side, c) -> tests.stream().allMatch(test -> test.of(state, side, c));
    }

    private Cond test(int depth) {
        if (isOneOf("!")) {
            open(depth, 6);
            Cond test = test(depth + 1);
            return (state, side, c) -> !test.of(state, side, c);
        }
        if (isOneOf("(")) {
            open(depth, 6);
            Cond inner = choice(depth + 1);
            next(")");
            return inner;
        }
        Num left = amount(depth);
        char sign = next("<>=");
        Num right = amount(depth);
        return (state, side, c) -> {
            int a = left.of(state, side, c);
            int b = right.of(state, side, c);
            return sign == '<' ? a < b : sign == '>' ? a > b : a == b;
        };
    }

    private Num amount(int depth) {
        Num sum = term(depth);
        while (isOneOf("+-")) {
            boolean plus = next("+-") == '+';
            Num left = sum;
            Num right = term(depth);
            sum = (state, side, c) -> left.of(state, side, c) + (plus ? 1 : -1) * right.of(state, side, c);
        }
        return sum;
    }

    private Num term(int depth) {
        Num product = factor(depth);
        while (isOneOf("*/%")) {
            char sign = next("*/%");
            Num left = product;
            Num right = factor(depth);
            product = (state, side, c) -> {
                int a = left.of(state, side, c);
                int b = right.of(state, side, c);
                if (sign != '*' && b == 0) {
                    throw new Refused();
                }
                return sign == '*' ? a * b : sign == '/' ? (int) ((long) a / b) : (int) ((long) a % b);
            };
        }
        return product;
    }

    private Num factor(int depth) {
        if (isOneOf("[")) {
            open(depth, 6);
            Num inner = amount(depth + 1);
            next("]");
            return inner;
        }
        if (isOneOf("0123456789")) {
            int number = number(5);
            return (state, side, c) -> number;
        }
        char letter = next("sckalunovhd");
        return (state, side, c) -> letter(state, side, c, letter);
    }

    private int letter(State state, int side, int c, char letter) {
        Man man = state.men[side][c];
        switch (letter) {
            case 's': return side;
            case 'c': return c;
            case 'k': return man.rank;
            case 'a': return man.boredom;
            case 'l': return man.lemonade;
            case 'u': return state.cushions[side][c];
            case 'n': return Integer.bitCount(state.bits(side, "sits"));
            case 'o': return Integer.bitCount(state.bits(1 - side, "sits"));
            case 'v': return Integer.bitCount(seen(state, side, c));
            case 'h': return state.watch;
            default: return state.day % 100;
        }
    }

    private int ask(State state, int side, int c, char letter) {
        for (Rule rule : law) {
            if (rule.letter == letter && holds(rule, state, side, c)) {
                if (letter == 'x') {
                    return 1;
                }
                try {
                    int amount = rule.amount.of(state, side, c);
                    return amount < 0 ? 0 : Math.min(amount, letter == 'w' ? 10 : 99);
                } catch (Refused refused) {
                    return 0;
                }
            }
        }
        return 0;
    }

    private static boolean holds(Rule rule, State state, int side, int c) {
        try {
            return rule.test.of(state, side, c);
        } catch (Refused refused) {
            return false;
        }
    }

    // Orders.

    int orders(int n) {
        text = take(n, 1, 120);
        if (text == null) {
            return -1;
        }
        at = 0;
        State after = now.copy();
        int lines = 0;
        try {
            do {
                int place = at;
                int side = next("<>") == '<' ? 0 : 1;
                if (lines == 20) {
                    throw new Fault(4, place);
                }
                line(after, side);
                lines++;
            } while (at < text.length() && next(";") == ';');
        } catch (Fault fault) {
            return fault.code;
        }
        now = after;
        return lines;
    }

    private void line(State state, int side) {
        int c = next("01234567") - '0';
        Man man = state.men[side][c];
        if (man == null) {
            throw new Fault(7, at - 1);
        }
        char deed = next("LCGIO");
        int place = at;
        switch (deed) {
            case 'L' -> man.lemonade = Math.min(99, man.lemonade + number(2));
            case 'C' -> {
                int cushions = number(2);
                if (cushions > 9) {
                    throw new Fault(3, place);
                }
                state.cushions[side][c] = cushions;
            }
            case 'G' -> {
                int other = next("01234567") - '0';
                state.men[side][c] = state.men[side][other];
                state.men[side][other] = man;
            }
            case 'I' -> man.state = "in";
            default -> {
                if (man.in()) {
                    man.boredom = 0;
                }
                man.state = "sits";
            }
        }
    }

    // Signals.

    int signals(int side, int n) {
        if (side >> 1 != 0) {
            return -1;
        }
        text = take(n, 1, 40);
        if (text == null) {
            return -1;
        }
        at = 0;
        try {
            String read = round("", 0);
            if (at < text.length()) {
                throw new Fault(1, at);
            }
            lamps[side] = read;
            return read.length();
        } catch (Fault fault) {
            return fault.code;
        }
    }

    /** The lamps of a round, behind those that are ahead of it. */
    private String round(String ahead, int depth) {
        String read = "";
        do {
            int from = at;
            int times = isOneOf("23456789") ? next("23456789") - '0' : 1;
            String one;
            if (isOneOf("(")) {
                open(depth + 1, 2);
                one = round(ahead + read, depth + 1);
                next(")");
            } else {
                one = "" + next(".abcde");
            }
            read += one.repeat(times);
            if ((ahead + read).length() > 60) {
                throw new Fault(6, from);
            }
        } while (at < text.length() && peek() != ')');
        return read;
    }

    // Sight.

    private int eye(State state, int side, int c) {
        return floor[side] + 5 * state.cushions[side][c];
    }

    private boolean line(int near, int far, int cut) {
        for (int i = 0; i < 24; i++) {
            int height = i == cut ? 0 : column[i];
            BigInteger above = BigInteger.valueOf(near - height).multiply(BigInteger.valueOf(25))
                .add(BigInteger.valueOf(far - near).multiply(BigInteger.valueOf(i + 1)));
            if (above.signum() <= 0) {
                return false;
            }
        }
        return true;
    }

    private boolean see(State state, int c, int e, int cut) {
        return line(eye(state, 0, c), eye(state, 1, e), cut);
    }

    private int seen(State state, int side, int c) {
        int seen = 0;
        for (int e = 0; e < 8; e++) {
            Man other = state.men[1 - side][e];
            if (other != null && other.sits() && (side == 0 ? see(state, c, e, -1) : see(state, e, c, -1))) {
                seen |= 1 << e;
            }
        }
        return seen;
    }

    private boolean is(int side, int c) {
        return side >> 1 == 0 && c >> 3 == 0 && now.men[side][c] != null;
    }

    int chairIs(int side, int c, int what) {
        if (!is(side, c)) {
            return -1;
        }
        Man man = now.men[side][c];
        int[] answers = {man.rank, man.boredom, man.lemonade, now.cushions[side][c],
            List.of("sits", "dinner", "in").indexOf(man.state), seen(now, side, c), eye(now, side, c)};
        return what < 0 || what > 6 ? -1 : answers[what];
    }

    int sees(int c, int e) {
        return !is(0, c) || !is(1, e) ? -1 : see(now, c, e, -1) ? 1 : 0;
    }

    int toSee(int side, int c, int e) {
        if (!is(side, c) || !is(1 - side, e)) {
            return -1;
        }
        State state = now.copy();
        int more = 0;
        while (!(side == 0 ? see(state, c, e, -1) : see(state, e, c, -1))) {
            if (state.cushions[side][c] == 9) {
                return -2;
            }
            state.cushions[side][c]++;
            more++;
        }
        return more;
    }

    private int twos(int cut) {
        int twos = 0;
        for (int c = 0; c < 8; c++) {
            for (int e = 0; e < 8; e++) {
                boolean sit = is(0, c) && is(1, e) && now.men[0][c].sits() && now.men[1][e].sits();
                twos += sit && see(now, c, e, cut) ? 1 : 0;
            }
        }
        return twos;
    }

    int overTrees(int what) {
        int twos = twos(-1);
        int most = 0;
        int best = -2;
        for (int i = 23; i >= 0; i--) {
            int more = twos(i) - twos;
            if (more > 0 && more >= most) {
                most = more;
                best = i;
            }
        }
        return what == 0 ? twos : what == 1 ? best : what == 2 ? most : -1;
    }

    int hidden(int what) {
        int[] seen = new int[8];
        for (int c = 0; c < 8; c++) {
            seen[c] = is(0, c) && now.men[0][c].sits() ? seen(now, 0, c) : 0;
        }
        int[] best = {99, 0, 0};
        for (int a = 0; a < 256; a++) {
            for (int b = 0; b < 256; b++) {
                int all = Integer.bitCount(a) + Integer.bitCount(b);
                if (all < best[0]) {
                    boolean nobody = true;
                    for (int c = 0; c < 8; c++) {
                        nobody &= (a >> c & 1) == 1 || (seen[c] & ~b) == 0;
                    }
                    if (nobody) {
                        best = new int[] {all, a, b};
                    }
                }
            }
        }
        return what < 0 || what > 2 ? -1 : best[what];
    }

    boolean capture(int side, int c, int e) {
        if (now.watch != 5 || !is(side, c) || !is(1 - side, e) || !now.men[side][c].sits()
                || now.men[1 - side][e].sits() || now.cushions[1 - side][e] == 0 || now.cushions[side][c] == 9
                || (side == 0 ? sees(c, e) : sees(e, c)) == 0) {
            return false;
        }
        now.cushions[side][c]++;
        now.cushions[1 - side][e]--;
        return true;
    }

    // Watches.

    private boolean allIn(State state, int side) {
        return Arrays.stream(state.men[side]).noneMatch(man -> man != null && !man.in());
    }

    private List<Event> pass(State state, int n) {
        List<Event> events = new ArrayList<>();
        for (int watch = 1; watch <= n && state.lost == 0 && state.day != 9999; watch++) {
            boolean[] began = {!allIn(state, 0), !allIn(state, 1)};
            for (Man[] side : state.men) {
                for (Man man : side) {
                    if (man != null && man.state.equals("dinner")) {
                        man.state = "sits";
                    }
                }
            }
            for (int side = 0; side < 2; side++) {
                for (int c = 0; c < 8; c++) {
                    Man man = state.men[side][c];
                    if (man != null && man.sits()) {
                        sit(state, side, c, watch, events);
                    }
                }
            }
            for (int side = 0; side < 2; side++) {
                if (began[side] && allIn(state, side)) {
                    state.lost |= 1 << side;
                    events.add(new Event("loses", watch, side, 0));
                }
            }
            state.day += state.watch == 5 ? 1 : 0;
            state.watch = (state.watch + 1) % 6;
        }
        return events;
    }

    private void sit(State state, int side, int c, int watch, List<Event> events) {
        Man man = state.men[side][c];
        int b = ask(state, side, c, 'b');
        int t = ask(state, side, c, 't');
        man.boredom = Math.min(99, man.boredom + b);
        for (int i = 0; i < t && man.lemonade > 0; i++) {
            man.lemonade--;
            events.add(new Event("drinks", watch, side, c));
        }
        if (man.boredom == 99 || man.lemonade == 0 || ask(state, side, c, 'x') == 1) {
            man.state = "in";
            events.add(new Event("in", watch, side, c));
            return;
        }
        state.x = (int) ((25173L * state.x + 13849) % 65536);
        if (state.x % 10 < ask(state, side, c, 'w')) {
            man.state = "dinner";
            events.add(new Event("dinner", watch, side, c));
        }
    }

    private static int many(List<Event> events, String what) {
        return (int) events.stream().filter(event -> event.what.equals(what)).count();
    }

    int watches(int n) {
        return n < 1 || n > 120 ? -1 : many(pass(now, n), "in");
    }

    int tried(int n, int what) {
        if (n < 1 || n > 120) {
            return -1;
        }
        State state = now.copy();
        List<Event> events = pass(state, n);
        if (what >= 10 && what <= 17 || what >= 20 && what <= 27) {
            Man man = state.men[what / 10 - 1][what % 10];
            return man == null ? -1 : man.boredom;
        }
        return what == 0 ? many(events, "in") : what == 1 ? many(events, "dinner")
            : what == 2 ? many(events, "drinks") : what == 3 ? state.lost : -1;
    }

    int whenIn(int side, int c, int n) {
        if (!is(side, c) || n < 1 || n > 120) {
            return -1;
        }
        if (now.men[side][c].in()) {
            return 0;
        }
        return pass(now.copy(), n).stream().filter(event -> event.what.equals("in") && event.side == side
            && event.c == c).map(Event::watch).findFirst().orElse(-2);
    }

    int first(int n, int what) {
        if (n < 1 || n > 120 || what < 0 || what > 2) {
            return -1;
        }
        return pass(now.copy(), n).stream().filter(event -> event.what.equals("in"))
            .map(event -> what == 0 ? event.side : what == 1 ? event.c : event.watch).findFirst().orElse(-2);
    }

    int loses(int n, int what) {
        if (n < 1 || n > 120 || what < 0 || what > 1) {
            return -1;
        }
        State state = now.copy();
        List<Event> events = pass(state, n);
        if (what == 0) {
            return state.lost;
        }
        return now.lost != 0 ? 0 : events.stream().filter(event -> event.what.equals("loses"))
            .map(Event::watch).findFirst().orElse(-2);
    }

    int lasts(int side, int c, int n) {
        if (!is(side, c) || !now.men[side][c].sits() || n < 1 || n > 60) {
            return -1;
        }
        for (int more = 0; more < 100; more++) {
            State state = now.copy();
            Man man = state.men[side][c];
            man.lemonade += more;
            int watch = 0;
            for (; watch < n; watch++) {
                int b = ask(state, side, c, 'b');
                int t = ask(state, side, c, 't');
                man.boredom = Math.min(99, man.boredom + b);
                man.lemonade -= t;
                if (man.lemonade <= 0) {
                    break;
                }
                state.day += state.watch == 5 ? 1 : 0;
                state.watch = (state.watch + 1) % 6;
            }
            if (watch == n) {
                return more;
            }
        }
        return -2;
    }

    // Glasses and the like.

    private int bestTwos;
    private int bestApart;
    private int[] bestRow;

    int glasses(int what) {
        if (!(what >= 0 && what <= 7) && what != 100 && what != 101) {
            return -1;
        }
        bestRow = null;
        give(0, now.bits(1, "sits"), new int[8], 0, 0);
        return what == 100 ? bestApart : what == 101 ? bestTwos : bestRow[what] == 8 ? -2 : bestRow[what];
    }

    /** Tries rows from the least on, so that of like ones the first is kept. */
    private void give(int c, int left, int[] row, int twos, int apart) {
        if (c == 8) {
            if (bestRow == null || twos > bestTwos || twos == bestTwos && apart < bestApart) {
                bestRow = row.clone();
                bestTwos = twos;
                bestApart = apart;
            }
            return;
        }
        if (is(0, c) && now.men[0][c].sits()) {
            for (int e = 0; e < 8; e++) {
                if ((left >> e & 1) == 1) {
                    row[c] = e;
                    give(c + 1, left & ~(1 << e), row, twos + 1, apart + Math.abs(c - e));
                }
            }
        }
        row[c] = 8;
        give(c + 1, left, row, twos, apart);
    }

    int march(int side) {
        if (side >> 1 != 0) {
            return -1;
        }
        List<Integer> ranks = new ArrayList<>();
        for (Man man : now.men[side]) {
            if (man != null && !man.in()) {
                ranks.add(man.rank);
            }
        }
        int changes = 0;
        for (int round = 0; round < 8; round++) {
            for (int i = 0; i + 1 < ranks.size(); i++) {
                if (ranks.get(i) > ranks.get(i + 1)) {
                    Collections.swap(ranks, i, i + 1);
                    changes++;
                }
            }
        }
        return changes;
    }

    int ridge(int what) {
        int crests = 0;
        List<Integer> piles = new ArrayList<>();
        for (int i = 0; i < 24; i++) {
            boolean higher = true;
            for (int j = 0; j < i; j++) {
                higher &= column[j] < column[i];
            }
            crests += higher ? 1 : 0;
            int found = Collections.binarySearch(piles, column[i]);
            if (found < 0 && -found - 1 == piles.size()) {
                piles.add(column[i]);
            } else if (found < 0) {
                piles.set(-found - 1, column[i]);
            }
        }
        return what == 0 ? crests : what == 1 ? piles.size() : -1;
    }

    // Lamps.

    int answered() {
        for (int i = 0; i <= 60; i++) {
            String a = lamps[0].length() > i ? lamps[0].substring(i, i + 1) : "";
            String b = lamps[1].length() > i ? lamps[1].substring(i, i + 1) : "";
            if (!a.equals(b)) {
                return i;
            }
        }
        return -2;
    }

    int inCommon(int what) {
        if (!(what >= 0 && what <= 59) && what != 100) {
            return -1;
        }
        int a = lamps[0].length();
        int b = lamps[1].length();
        String[][] best = new String[a + 1][b + 1];
        for (int i = a; i >= 0; i--) {
            for (int j = b; j >= 0; j--) {
                best[i][j] = "";
                if (i < a && j < b) {
                    best[i][j] = better(best[i + 1][j], best[i][j + 1]);
                    if (lamps[0].charAt(i) == lamps[1].charAt(j)) {
                        best[i][j] = better(best[i][j], lamps[0].charAt(i) + best[i + 1][j + 1]);
                    }
                }
            }
        }
        String row = best[0][0];
        return what == 100 ? row.length() : what >= row.length() ? -4 : ".abcde".indexOf(row.charAt(what));
    }

    private static String better(String a, String b) {
        if (a.length() != b.length()) {
            return a.length() > b.length() ? a : b;
        }
        return a.compareTo(b) < 0 ? a : b;
    }

    int beat(int side) {
        if (side >> 1 != 0) {
            return -1;
        }
        String row = lamps[side];
        for (int length = 1; length <= row.length(); length++) {
            if (row.substring(0, length).repeat(60).startsWith(row)) {
                return length;
            }
        }
        return -2;
    }

    int lamps(int side, int sign) {
        if (side >> 1 != 0 || sign < 0 || sign > 5) {
            return -1;
        }
        return (int) lamps[side].chars().filter(lamp -> lamp == ".abcde".charAt(sign)).count();
    }

    // Games on the tape.

    int bridge(int n, int trumps, int leads, int what) {
        if (n < 1 || n > 3 || trumps < 0 || trumps > 4 || leads >> 2 != 0 || what >> 1 != 0) {
            return -1;
        }
        String cards = take(4 * n, 4, 12);
        if (cards == null) {
            return -1;
        }
        if (cards.chars().distinct().count() != 4 * n || cards.chars().anyMatch(card -> card > 51)) {
            return -2;
        }
        List<List<Integer>> hands = new ArrayList<>();
        for (int p = 0; p < 4; p++) {
            hands.add(new ArrayList<>());
            for (int i = 0; i < n; i++) {
                hands.get(p).add((int) cards.charAt(p * n + i));
            }
        }
        int best = play(hands, trumps, leads, new ArrayList<>());
        if (what == 0) {
            return best;
        }
        Collections.sort(hands.get(leads));
        for (int card : List.copyOf(hands.get(leads))) {
            hands.get(leads).remove((Integer) card);
            if (play(hands, trumps, leads, new ArrayList<>(List.of(card))) == best) {
                return card;
            }
            hands.get(leads).add(card);
        }
        return 999;
    }

    private int play(List<List<Integer>> hands, int trumps, int leads, List<Integer> trick) {
        if (trick.size() == 4) {
            int led = trick.get(0) / 13;
            boolean trumped = trick.stream().anyMatch(card -> card / 13 == trumps);
            int top = trick.stream().filter(card -> card / 13 == (trumped ? trumps : led)).max(Integer::compare).get();
            int winner = (leads + trick.indexOf(top)) % 4;
            return (winner % 2 == 0 ? 1 : 0) + play(hands, trumps, winner, new ArrayList<>());
        }
        int player = (leads + trick.size()) % 4;
        List<Integer> hand = List.copyOf(hands.get(player));
        if (hand.isEmpty()) {
            return 0;
        }
        List<Integer> may = trick.isEmpty() ? hand
            : hand.stream().filter(card -> card / 13 == trick.get(0) / 13).toList();
        List<Integer> values = new ArrayList<>();
        for (int card : may.isEmpty() ? hand : may) {
            hands.get(player).remove((Integer) card);
            trick.add(card);
            values.add(play(hands, trumps, leads, new ArrayList<>(trick)));
            trick.remove(trick.size() - 1);
            hands.get(player).add(card);
        }
        return player % 2 == 0 ? Collections.max(values) : Collections.min(values);
    }

    int parrots(int n, int many, int what) {
        if (n < 1 || n > 8 || many < 0 || many > 8 || what < 0 || what > 3) {
            return -1;
        }
        String tenths = take(n, 1, 8);
        if (tenths == null) {
            return -1;
        }
        if (tenths.chars().anyMatch(tenth -> tenth > 10)) {
            return -2;
        }
        BigInteger above = BigInteger.ZERO;
        for (int who = 0; who < 1 << n; who++) {
            int arrive = Integer.bitCount(who);
            if (what < 2 ? arrive >= many : arrive == many) {
                BigInteger cases = BigInteger.ONE;
                for (int i = 0; i < n; i++) {
                    int tenth = tenths.charAt(i);
                    cases = cases.multiply(BigInteger.valueOf((who >> i & 1) == 1 ? tenth : 10 - tenth));
                }
                above = above.add(cases);
            }
        }
        BigInteger below = BigInteger.TEN.pow(n);
        BigInteger divisor = above.gcd(below);
        return (what % 2 == 0 ? above : below).divide(divisor).intValue();
    }

    int ants(int from, int what) {
        if (from >> 3 != 0 || what < 0 || what > 8) {
            return -1;
        }
        String wood = take(8, 8, 8);
        if (wood == null) {
            return -1;
        }
        if (wood.chars().anyMatch(watches -> watches < 1 || watches > 99)) {
            return -2;
        }
        int[] left = wood.chars().toArray();
        boolean[] begun = new boolean[8];
        int[] eaten = new int[8];
        begun[from] = true;
        for (int watch = 1; watch <= 800; watch++) {
            boolean[] next = begun.clone();
            for (int c = 0; c < 8; c++) {
                if (begun[c] && left[c] > 0 && --left[c] == 0) {
                    eaten[c] = watch;
                    next[Math.max(0, c - 1)] = true;
                    next[Math.min(7, c + 1)] = true;
                }
            }
            begun = next;
        }
        int last = 7;
        for (int c = 7; c >= 0; c--) {
            last = eaten[c] >= eaten[last] ? c : last;
        }
        return what == 8 ? last : eaten[what];
    }

    // What is kept.

    boolean seed(int x) {
        if (x >> 16 != 0) {
            return false;
        }
        now.x = x;
        return true;
    }

    int keep() {
        kept = now.copy();
        return now.day;
    }

    boolean undo() {
        if (kept == null) {
            return false;
        }
        now = kept.copy();
        return true;
    }

    int check(int side, int n) {
        if (side >> 1 != 0) {
            return -2;
        }
        String row = take(n, 0, 8);
        if (row == null) {
            return -2;
        }
        for (int c = 0; c < n; c++) {
            if (row.charAt(c) != (now.men[side][c] == null ? 0 : now.men[side][c].boredom)) {
                return c;
            }
        }
        return -1;
    }

    int count(int what) {
        if (what >= 100 && what < 124) {
            return column[what - 100];
        }
        if (what >= 10 && what < 30 && what % 10 < 6) {
            int side = what / 10 - 1;
            int sit = now.bits(side, "sits");
            int dine = now.bits(side, "dinner");
            int in = now.bits(side, "in");
            return new int[] {sit + dine + in, sit, dine, in, floor[side], lamps[side].length()}[what % 10];
        }
        int[] answers = {now.day, now.watch, now.lost, law.size(), tape.length(), now.x};
        return what < 0 || what > 5 ? -1 : answers[what];
    }
}
