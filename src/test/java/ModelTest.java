import java.util.Random;

/** Random runs of calls on fresh objects, all answers compared with those of SlowWar; the same runs every time. */
public final class ModelTest {
    private static final int RUNS = 120;
    private static final int CALLS = 400;

    private final Random random;
    private final int run;
    private final VerandaWar war = new VerandaWar();
    private final SlowWar slow = new SlowWar();
    private String last = "";

    private ModelTest(int run) {
        this.run = run;
        random = new Random(1000L + run);
    }

    public static void main(String[] args) {
        int from = args.length > 1 ? Integer.parseInt(args[1]) : 0;
        int runs = args.length > 2 ? Integer.parseInt(args[2]) : RUNS;
        for (int run = from; run < from + runs; run++) {
            ModelTest test = new ModelTest(run);
            test.begin();
            for (int call = 0; call < CALLS; call++) {
                test.step();
                test.compareState();
            }
        }
        Due.end();
    }

    private int below(int n) {
        return random.nextInt(n);
    }

    /** Mostly from least to most, now and then beyond, seldom anything. */
    private int some(int least, int most) {
        int kind = below(40);
        if (kind == 0) {
            return new int[] {least - 1, most + 1, Integer.MIN_VALUE, Integer.MAX_VALUE, random.nextInt()}[below(5)];
        }
        return least + below(most - least + 1);
    }

    private int side() {
        return some(0, 1);
    }

    private int seat() {
        return some(0, 7);
    }

    private void due(String call, int got, int want) {
        last = call;
        Due.is("run " + run + ": " + call, got, want);
    }

    private void due(String call, boolean got, boolean want) {
        due(call, got ? 1 : 0, want ? 1 : 0);
    }

    private void begin() {
        int people = below(4);
        for (int s = 0; s < 2; s++) {
            for (int c = 0; c < 8; c++) {
                if (below(4) < people) {
                    sit(s, c);
                }
            }
        }
        int trees = below(3);
        for (int i = 0; i < 24 && trees > 0; i++) {
            int height = below(trees == 1 ? 60 : 100);
            due("column", war.column(i, height), slow.column(i, height));
        }
        read(law(), 'l');
    }

    private void sit(int s, int c) {
        int rank = below(10);
        int lemonade = below(8) == 0 ? below(4) : 20 + below(80);
        int cushions = below(10);
        due("chair", war.chair(s, c, rank, lemonade, cushions), slow.chair(s, c, rank, lemonade, cushions));
    }

    private void feed(String text) {
        StringBuilder padded = new StringBuilder(text);
        while (padded.length() % 20 != 0 || padded.length() == 0) {
            padded.append((char) below(256));
        }
        for (int from = 0; from < padded.length(); from += 20) {
            int[] w = new int[5];
            for (int i = 0; i < 20; i++) {
                w[i / 4] = w[i / 4] << 8 | padded.charAt(from + i);
            }
            due("feed " + text, war.feed(w[0], w[1], w[2], w[3], w[4]), slow.feed(w));
        }
    }

    /** Empties the tape, feeds a text and has it read. */
    private void read(String text, char how) {
        if (below(20) != 0) {
            due("check(0, 0)", war.check(0, 0), slow.check(0, 0));
        }
        feed(text);
        int n = below(25) == 0 ? some(0, 260) : text.length();
        int s = side();
        switch (how) {
            case 'l' -> due("law " + text, war.law(n), slow.law(n));
            case 'o' -> due("orders " + text, war.orders(n), slow.orders(n));
            default -> due("signals " + s + " " + text, war.signals(s, n), slow.signals(s, n));
        }
    }

    // Texts.

    private String pick(String signs) {
        int i = below(signs.length());
        return signs.substring(i, i + 1);
    }

    private String spoilt(String text, String signs) {
        if (below(5) != 0 || text.isEmpty()) {
            return text;
        }
        int i = below(text.length());
        return switch (below(4)) {
            case 0 -> text.substring(0, i);
            case 1 -> text.substring(0, i) + text.substring(i + 1);
            case 2 -> text.substring(0, i) + pick(signs) + text.substring(i);
            default -> text.substring(0, i) + pick(signs) + text.substring(i + 1);
        };
    }

    private String law() {
        StringBuilder text = new StringBuilder();
        int rules = below(10) == 0 ? 14 + below(5) : 1 + below(6);
        for (int i = 0; i < rules; i++) {
            String letter = pick("bbbttwwx");
            String amount = letter.equals("x") ? "" : letter.equals("w") ? pick("0123456789") + some("", "+k%3")
                : pick("0123456789") + some("", pick("+-*/%") + amount(depth()));
            String test = letter.equals("x") && below(4) != 0 ? pick("ac") + ">" + (2 + below(70)) : choice(depth());
            String rule = letter + amount + "(" + (rules > 10 ? "k" + pick("<>=") + "5" : test) + ")";
            text.append(i == 0 ? "" : ";").append(rule);
        }
        String whole = text.toString();
        return spoilt(whole.length() > 240 ? whole.substring(0, 240) : whole, "btwxsckalunovhd0123456789+-*/%<>=&|!()[];q ");
    }

    /** Seldom so deep that it is too much. */
    private int depth() {
        return below(6) == 0 ? below(9) : below(3);
    }

    private String some(String often, String seldom) {
        return below(3) == 0 ? seldom : often;
    }

    private String choice(int depth) {
        StringBuilder text = new StringBuilder(part(depth));
        for (int i = below(3); i > 1; i--) {
            text.append("|").append(part(depth));
        }
        return text.toString();
    }

    private String part(int depth) {
        StringBuilder text = new StringBuilder(test(depth));
        for (int i = below(3); i > 1; i--) {
            text.append("&").append(test(depth));
        }
        return text.toString();
    }

    private String test(int depth) {
        int kind = depth <= 0 ? 9 : below(depth > 3 ? 3 : 6);
        if (kind == 0) {
            return "!" + test(depth - 1);
        }
        if (kind == 1) {
            return "(" + choice(depth - 1) + ")";
        }
        return amount(depth) + pick("<>=") + amount(depth - 1);
    }

    private String amount(int depth) {
        StringBuilder text = new StringBuilder(factor(depth));
        for (int i = below(3); i > 1; i--) {
            text.append(pick("+-*/%")).append(factor(depth));
        }
        return text.toString();
    }

    private String factor(int depth) {
        if (depth > 0 && below(depth > 3 ? 2 : 4) == 0) {
            return "[" + amount(depth - 1) + "]";
        }
        return below(2) == 0 ? pick("sckalunovhd") : "" + below(new int[] {3, 10, 100, 100000, 120000}[below(5)]);
    }

    private String orders() {
        StringBuilder text = new StringBuilder();
        int lines = below(10) == 0 ? 19 + below(4) : 1 + below(4);
        for (int i = 0; i < lines; i++) {
            text.append(i == 0 ? "" : ";").append(pick("<>")).append(pick("01234567"));
            String deed = pick("LCGIOO");
            text.append(deed).append(deed.equals("L") ? "" + below(105) : deed.equals("C") ? "" + below(11)
                : deed.equals("G") ? pick("01234567") : "");
        }
        String whole = text.toString();
        return spoilt(whole.length() > 120 ? whole.substring(0, 120) : whole, "<>01234567LCGIO;89 x");
    }

    private String signals(int depth) {
        StringBuilder text = new StringBuilder();
        for (int i = below(4); i >= 0; i--) {
            text.append(below(3) == 0 ? pick("23456789") : "");
            text.append(depth > 0 && below(3) == 0 ? "(" + signals(depth - 1) + ")" : pick(".abcdeabab"));
        }
        String whole = text.toString();
        return whole.length() > 40 ? whole.substring(0, 40) : whole;
    }

    private String bytes(int n, int least, int most) {
        StringBuilder text = new StringBuilder();
        for (int i = 0; i < n; i++) {
            int next = below(60) == 0 ? below(256) : least + below(most - least + 1);
            text.append((char) next);
        }
        return text.toString();
    }

    private String cards(int n) {
        StringBuilder text = new StringBuilder();
        while (text.length() < 4 * n) {
            char card = (char) below(below(100) == 0 ? 60 : 52);
            if (text.indexOf("" + card) < 0 || below(200) == 0) {
                text.append(card);
            }
        }
        return text.toString();
    }

    // Calls.

    private void step() {
        int s = side();
        int c = seat();
        int e = seat();
        switch (below(44)) {
            case 0 -> sit(below(2), below(8));
            case 1 -> {
                int rank = some(0, 9);
                int lemonade = some(0, 99);
                int cushions = some(0, 9);
                due("chair", war.chair(s, c, rank, lemonade, cushions), slow.chair(s, c, rank, lemonade, cushions));
            }
            case 2 -> {
                int height = some(0, 99);
                due("floor", war.floor(s, height), slow.floor(s, height));
            }
            case 3, 4 -> {
                int i = some(0, 23);
                int height = some(0, below(3) == 0 ? 199 : 80);
                due("column", war.column(i, height), slow.column(i, height));
            }
            case 5 -> feed(bytes(20, 0, 255));
            case 6, 7, 8 -> read(law(), 'l');
            case 9, 10, 11, 12 -> read(orders(), 'o');
            case 13, 14 -> read(spoilt(signals(2 + below(2)), ".abcde23456789()1f"), 's');
            case 15, 16, 17 -> {
                int n = below(3) == 0 ? some(1, 120) : 1 + below(4);
                due("watches " + n, war.watches(n), slow.watches(n));
            }
            default -> ask(s, c, e);
        }
    }

    private void ask(int s, int c, int e) {
        int n = below(3) == 0 ? some(1, 120) : 1 + below(12);
        switch (below(24)) {
            case 0, 1 -> {
                int what = below(3) == 0 ? some(0, 3) : some(10, 27);
                due("tried " + n + " " + what, war.tried(n, what), slow.tried(n, what));
            }
            case 2 -> due("sees " + c + " " + e, war.sees(c, e), slow.sees(c, e));
            case 3 -> due("toSee", war.toSee(s, c, e), slow.toSee(s, c, e));
            case 4 -> {
                int what = some(0, 2);
                due("overTrees " + what, war.overTrees(what), slow.overTrees(what));
            }
            case 5 -> {
                int what = some(0, 2);
                due("hidden " + what, war.hidden(what), slow.hidden(what));
            }
            case 6 -> due("capture", war.capture(s, c, e), slow.capture(s, c, e));
            case 7, 8 -> due("whenIn " + n, war.whenIn(s, c, n), slow.whenIn(s, c, n));
            case 9 -> {
                int what = some(0, 2);
                due("first " + n + " " + what, war.first(n, what), slow.first(n, what));
            }
            case 10 -> {
                int what = some(0, 1);
                due("loses " + n + " " + what, war.loses(n, what), slow.loses(n, what));
            }
            case 11 -> {
                int w = some(1, 60);
                due("lasts " + w, war.lasts(s, c, w), slow.lasts(s, c, w));
            }
            case 12 -> {
                int what = below(6) == 0 ? some(100, 101) : some(0, 7);
                due("glasses " + what, war.glasses(what), slow.glasses(what));
            }
            case 13 -> due("march " + s, war.march(s), slow.march(s));
            case 14 -> due("ridge", war.ridge(s), slow.ridge(s));
            case 15 -> askLamps(s);
            case 16, 17, 18 -> games();
            case 19 -> {
                int x = some(0, 65535);
                due("seed " + x, war.seed(x), slow.seed(x));
            }
            case 20 -> due("keep", war.keep(), slow.keep());
            case 21 -> due("undo", war.undo(), slow.undo());
            case 22 -> nightAndCapture(s);
            default -> {
                int what = some(0, 130);
                due("count " + what, war.count(what), slow.count(what));
            }
        }
    }

    /** Goes on to the night, so that captures are not too seldom. */
    private void nightAndCapture(int s) {
        for (int i = 0; i < 5 && war.count(1) != 5; i++) {
            due("watches 1", war.watches(1), slow.watches(1));
        }
        for (int i = 0; i < 8; i++) {
            int c = seat();
            int e = seat();
            due("capture " + s + " " + c + " " + e, war.capture(s, c, e), slow.capture(s, c, e));
        }
    }

    private void askLamps(int s) {
        int what = below(3) == 0 ? 100 : some(0, below(4) == 0 ? 59 : 12);
        int sign = some(0, 5);
        due("answered", war.answered(), slow.answered());
        due("inCommon " + what, war.inCommon(what), slow.inCommon(what));
        due("beat", war.beat(s), slow.beat(s));
        due("lamps", war.lamps(s, sign), slow.lamps(s, sign));
    }

    private void games() {
        due("check(1, 0)", war.check(1, 0), slow.check(1, 0));
        int kind = below(4);
        int what = some(0, kind == 0 ? 1 : kind == 1 ? 3 : 8);
        if (kind == 0) {
            int n = some(1, 3);
            int trumps = some(0, 4);
            int leads = some(0, 3);
            String lastCards = cards(n >= 1 && n <= 3 ? n : 3);
            feed(lastCards);
            due("bridge " + n + " " + trumps + " " + leads + " " + what + " " + lastCards.chars().boxed().toList(), war.bridge(n, trumps, leads, what), slow.bridge(n, trumps, leads, what));
        } else if (kind == 1) {
            int n = some(1, 8);
            int many = some(0, 8);
            feed(bytes(8, 0, 10));
            due("parrots", war.parrots(n, many, what), slow.parrots(n, many, what));
        } else if (kind == 2) {
            int from = seat();
            feed(bytes(8, 1, below(2) == 0 ? 3 : 99));
            due("ants", war.ants(from, what), slow.ants(from, what));
        } else {
            int s = side();
            StringBuilder bored = new StringBuilder();
            for (int c = 0; c < 8; c++) {
                int off = below(12) == 0 ? 1 : 0;
                bored.append((char) (Math.max(0, slow.chairIs(s, c, 1)) + off));
            }
            feed(bored.toString());
            due("check " + what, war.check(s, what), slow.check(s, what));
        }
    }

    private void compareState() {
        String call = last;
        for (int what = 0; what < 6; what++) {
            due(call + ", then count " + what, war.count(what), slow.count(what));
        }
        for (int what = 10; what < 26; what++) {
            due(call + ", then count " + what, war.count(what), slow.count(what));
        }
        for (int s = 0; s < 2; s++) {
            for (int c = 0; c < 8; c++) {
                for (int what = 0; what < 7; what++) {
                    due(call + ", then chairIs " + what, war.chairIs(s, c, what), slow.chairIs(s, c, what));
                }
            }
        }
        last = "";
    }
}
