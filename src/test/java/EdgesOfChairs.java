/** The first words of the terms, SEES and ORDERS, sentence by sentence. */
final class EdgesOfChairs {
    private static final int[] FAR_OFF = {Integer.MIN_VALUE, -256, -1};

    private EdgesOfChairs() {
    }

    static void all() {
        sidesAndChairs();
        gentlemen();
        valley();
        eyes();
        places();
        lower();
        lengthOfOrders();
        lines();
        sidesOfLines();
        gifts();
        changes();
        inAndOut();
        faults();
        manyLines();
        emptyChairs();
    }

    /** One in each chair: rank, cushions and lemonade tell which one it is. */
    private static VerandaWar full() {
        VerandaWar war = new VerandaWar();
        for (int c = 0; c < 8; c++) {
            war.chair(0, c, c, 50 + c, c);
            war.chair(1, c, 9 - c, 60 + c, c);
        }
        return war;
    }

    private static void sidesAndChairs() {
        Due.says("TWO SIDES (0, 1) of eight CHAIRS each (0 to 7):");
        VerandaWar war = full();
        for (int c = 0; c < 8; c++) {
            Due.is("side 0, chair " + c, war.chairIs(0, c, 0), c);
            Due.is("side 1, chair " + c, war.chairIs(1, c, 0), 9 - c);
        }
        war.watches(5);
        Due.orders(war, ">1I");
        for (int side : new int[] {-1, 2, Integer.MIN_VALUE, Integer.MAX_VALUE}) {
            noSide(war, side);
        }
        for (int c : new int[] {-1, 8, Integer.MIN_VALUE, Integer.MAX_VALUE}) {
            noChair(war, c);
        }
        Due.is("right sides and chairs", war.capture(0, 0, 1), true);
    }

    private static void noSide(VerandaWar war, int side) {
        String of = " of side " + side;
        Due.is("chair" + of, war.chair(side, 0, 1, 1, 1), false);
        Due.is("floor" + of, war.floor(side, 5), false);
        Due.is("chairIs" + of, war.chairIs(side, 0, 0), -1);
        Due.is("toSee" + of, war.toSee(side, 0, 0), -1);
        Due.is("capture" + of, war.capture(side, 0, 1), false);
        Due.is("whenIn" + of, war.whenIn(side, 0, 1), -1);
        Due.is("lasts" + of, war.lasts(side, 0, 1), -1);
        Due.is("march" + of, war.march(side), -1);
        Due.is("beat" + of, war.beat(side), -1);
        Due.is("lamps" + of, war.lamps(side, 0), -1);
        Due.is("check" + of, war.check(side, 0), -2);
        Due.feed(war, "a");
        Due.is("signals" + of, war.signals(side, 1), -1);
        war.check(0, 0);
    }

    private static void noChair(VerandaWar war, int c) {
        String of = " of chair " + c;
        Due.is("chair" + of, war.chair(0, c, 1, 1, 1), false);
        Due.is("chairIs" + of, war.chairIs(1, c, 0), -1);
        Due.is("sees" + of, war.sees(c, 0), -1);
        Due.is("sees, to" + of, war.sees(0, c), -1);
        Due.is("toSee" + of, war.toSee(0, c, 0), -1);
        Due.is("toSee, to" + of, war.toSee(0, 0, c), -1);
        Due.is("capture" + of, war.capture(0, c, 1), false);
        Due.is("capture, from one" + of, war.capture(0, 0, c), false);
        Due.is("whenIn" + of, war.whenIn(0, c, 1), -1);
        Due.is("lasts" + of, war.lasts(0, c, 1), -1);
        Due.feed(war, 1, 1, 1, 1, 1, 1, 1, 1);
        Due.is("ants" + of, war.ants(c, 0), -1);
        war.check(0, 0);
    }

    private static void gentlemen() {
        Due.says("empty (at first) or with a GENTLEMAN:");
        VerandaWar war = new VerandaWar();
        for (int c = 0; c < 8; c++) {
            Due.is("side 0, chair " + c, war.chairIs(0, c, 0), -1);
            Due.is("side 1, chair " + c, war.chairIs(1, c, 0), -1);
        }
        war.chair(1, 3, 0, 0, 0);
        Due.is("somebody", war.chairIs(1, 3, 0), 0);
        Due.is("bits", war.count(20), 8);
        Due.is("nobody across", war.count(10), 0);
        Due.says("RANK (0 to 9),");
        bounds(war, 0, 9, 0);
        Due.says("BOREDOM (0 to 99; 0 at first),");
        VerandaWar bored = Wars.two();
        Due.is("at first", bored.chairIs(0, 0, 1), 0);
        Due.law(bored, "b98(s=0);b60(s=1)");
        bored.watches(1);
        Due.is("98", bored.chairIs(0, 0, 1), 98);
        Due.is("60", bored.chairIs(1, 0, 1), 60);
        bored.watches(1);
        Due.is("99, not 196", bored.chairIs(0, 0, 1), 99);
        Due.is("99, not 120", bored.chairIs(1, 0, 1), 99);
        Due.says("LEMONADE (0 to 99),");
        bounds(war, 0, 99, 2);
        Due.says("CUSHIONS (0 to 9):");
        bounds(war, 0, 9, 3);
        Due.says("he SITS, is at DINNER, or has gone IN.");
        VerandaWar three = full();
        Due.law(three, "w10(c=1);x(c=2)");
        three.watches(1);
        Due.is("sits", three.chairIs(0, 0, 4), 0);
        Due.is("at dinner", three.chairIs(0, 1, 4), 1);
        Due.is("in", three.chairIs(0, 2, 4), 2);
    }

    /** Seats one in chair (1, 3) with each number within bounds, and with some beyond, as what chairIs calls it. */
    private static void bounds(VerandaWar war, int least, int most, int what) {
        for (int value = least; value <= most; value++) {
            Due.is("good " + value, seat(war, value, what), true);
            Due.is("told " + value, war.chairIs(1, 3, what), value);
        }
        for (int less : FAR_OFF) {
            Due.is("below by " + less, seat(war, least + less, what), false);
        }
        for (int more : new int[] {1, 2, 255, Integer.MAX_VALUE - most}) {
            Due.is("above by " + more, seat(war, most + more, what), false);
        }
        Due.is("as it was", war.chairIs(1, 3, what), most);
    }

    private static boolean seat(VerandaWar war, int value, int what) {
        return war.chair(1, 3, what == 0 ? value : 1, what == 2 ? value : 2, what == 3 ? value : 3);
    }

    private static void valley() {
        Due.says("Each side has a FLOOR (0 to 99; 50 at first).");
        VerandaWar war = new VerandaWar();
        for (int side = 0; side < 2; side++) {
            int what = side == 0 ? 14 : 24;
            Due.is("at first", war.count(what), 50);
            Due.is("100", war.floor(side, 100), false);
            Due.is("-1", war.floor(side, -1), false);
            Due.is("still", war.count(what), 50);
            Due.is("99", war.floor(side, 99), true);
            Due.is("told", war.count(what), 99);
            Due.is("0", war.floor(side, 0), true);
            Due.is("told, too", war.count(what), 0);
        }
        war.floor(0, 1);
        Due.is("the other one", war.count(24), 0);
        Due.says("THE VALLEY: 24 COLUMNS (0 to 23), each so high (0 to 199; 0 at first).");
        for (int i = 0; i < 24; i++) {
            Due.is("at first, " + i, war.count(100 + i), 0);
            Due.is("200, " + i, war.column(i, 200), false);
            Due.is("-1, " + i, war.column(i, -1), false);
            Due.is("still, " + i, war.count(100 + i), 0);
            Due.is("199 less " + i, war.column(i, 199 - i), true);
        }
        for (int i = 0; i < 24; i++) {
            Due.is("told, " + i, war.count(100 + i), 199 - i);
        }
        for (int i : new int[] {-1, 24, Integer.MIN_VALUE, Integer.MAX_VALUE}) {
            Due.is("no column " + i, war.column(i, 1), false);
        }
        Due.is("0 again", war.column(23, 0), true);
        Due.is("told again", war.count(123), 0);
        Due.says("WATCH (0 to 5 of a DAY; 0 at first), DAY (0 at first).");
        for (int i = 0; i < 20; i++) {
            Due.is("watch " + i, war.count(1), i % 6);
            Due.is("day of watch " + i, war.count(0), i / 6);
            war.watches(1);
        }
    }

    private static void eyes() {
        Due.says("SEES: the eye of one is FLOOR and 5 for each of his CUSHIONS high,");
        VerandaWar war = Wars.two();
        war.floor(0, 0);
        war.floor(1, 99);
        for (int cushions = 0; cushions < 10; cushions++) {
            war.chair(0, 0, 1, 50, cushions);
            war.chair(1, 0, 1, 50, 9 - cushions);
            Due.is("eye of side 0", war.chairIs(0, 0, 6), 5 * cushions);
            Due.is("eye of side 1", war.chairIs(1, 0, 6), 144 - 5 * cushions);
        }
        // By the cushion the line is at 5, and with the next one above it.
        VerandaWar low = Wars.two();
        low.floor(0, 0);
        low.floor(1, 0);
        Due.orders(low, "<0C1;>0C1");
        low.column(11, 5);
        Due.is("one cushion each", low.sees(0, 0), 0);
        Due.orders(low, "<0C2");
        Due.is("one cushion more", low.sees(0, 0), 1);
    }

    private static void places() {
        Due.says("side 0 ahead of COLUMN 0 (at place 0), side 1 behind COLUMN 23 (at place 25; COLUMN i stands at place i + 1):");
        for (int i = 0; i < 24; i++) {
            VerandaWar war = Wars.two();
            war.floor(0, 0);
            war.column(i, 2 * (i + 1));
            Due.is("rising, on the line, column " + i, war.sees(0, 0), 0);
            war.column(i, 2 * (i + 1) - 1);
            Due.is("rising, below the line, column " + i, war.sees(0, 0), 1);
            VerandaWar falling = Wars.two();
            falling.floor(1, 0);
            falling.column(i, 50 - 2 * (i + 1));
            Due.is("falling, on the line, column " + i, falling.sees(0, 0), 0);
            falling.column(i, 49 - 2 * (i + 1));
            Due.is("falling, below the line, column " + i, falling.sees(0, 0), 1);
        }
    }

    private static void lower() {
        Due.says("one sees one across if each COLUMN is lower than the straight line between both eyes is there.");
        for (int i = 0; i < 24; i++) {
            VerandaWar war = Wars.two();
            for (int j = 0; j < 24; j++) {
                war.column(j, 49);
            }
            Due.is("all lower", war.sees(0, 0), 1);
            war.column(i, 50);
            Due.is("column " + i + " as high", war.sees(0, 0), 0);
            war.floor(1, 51);
            Due.is("part of one above it", war.sees(0, 0), 1);
            war.floor(1, 49);
            Due.is("part of one below it", war.sees(0, 0), 0);
            war.column(i, 49);
            Due.is("part of one above 49", war.sees(0, 0), 1);
        }
        VerandaWar ground = Wars.two();
        ground.floor(0, 0);
        ground.floor(1, 0);
        Due.is("0 is not lower than 0", ground.sees(0, 0), 0);
        ground.floor(0, 1);
        Due.is("0 is lower than part of one", ground.sees(0, 0), 1);
        VerandaWar high = Wars.two();
        high.floor(0, 99);
        high.floor(1, 99);
        Due.orders(high, "<0C9;>0C9");
        high.column(7, 143);
        Due.is("143 is lower than 144", high.sees(0, 0), 1);
        high.column(7, 144);
        Due.is("144 is not", high.sees(0, 0), 0);
        high.column(7, 199);
        Due.is("199 is not", high.sees(0, 0), 0);
    }

    private static void order(VerandaWar war, String text, int want) {
        Due.is(text, Due.orders(war, text), want);
    }

    /** A text with a fault, given to eight on both sides, which does nothing. */
    private static void fault(String text, int want) {
        VerandaWar war = full();
        String before = Picture.of(war);
        order(war, text, want);
        Due.is("nothing is done by " + text, Picture.of(war).equals(before), true);
    }

    private static String lines(int many, String line) {
        StringBuilder text = new StringBuilder(line);
        for (int i = 1; i < many; i++) {
            text.append(';').append(line);
        }
        return text.toString();
    }

    private static void lengthOfOrders() {
        Due.says("ORDERS: a TEXT of at most 120 bytes,");
        // The longest text without a fault has 119 bytes: 20 lines of 5 with 19 signs between them.
        VerandaWar war = full();
        order(war, lines(20, "<0L01"), 20);
        Due.is("all are done", war.chairIs(0, 0, 2), 70);
        order(war, lines(20, "<0L01") + ";", -1120);
        Due.feed(war, lines(20, "<0L01") + ";");
        war.feed(0, 0, 0, 0, 0);
        Due.is("121", war.orders(121), -1);
        Due.is("the tape stays", war.count(4), 140);
        Due.is("119 of it", war.orders(119), 20);
        Due.says("no blanks:");
        String text = "<0L5;>1C3";
        for (int i = 0; i <= text.length(); i++) {
            fault(text.substring(0, i) + " " + text.substring(i), -1000 - i);
        }
        fault("<0L5\t", -1004);
        fault("<0L5\n", -1004);
        fault("<0L5\0", -1004);
    }

    private static void lines() {
        Due.says("LINES with a ; (59) between two (20 at most):");
        VerandaWar war = full();
        order(war, "<0L1", 1);
        order(war, "<0L1;<0L1", 2);
        order(war, lines(19, "<0L1"), 19);
        order(war, lines(20, "<0L1"), 20);
        Due.is("42 more", war.chairIs(0, 0, 2), 92);
        fault(lines(21, "<0L1"), -4100);
        fault("<0L1:<0L1", -1004);
        fault("<0L1<<0L1", -1004);
        fault("<0L1,<0L1", -1004);
        fault("<0L1<0L1", -1004);
        fault("<0I<0I", -1003);
        fault(";<0L1", -1000);
        fault("<0L1;;<0L1", -1005);
        fault("<0L1;", -1005);
    }

    private static void sidesOfLines() {
        Due.says("< (side 0) or > (side 1),");
        VerandaWar war = full();
        order(war, "<3L9", 1);
        Due.is("side 0 has it", war.chairIs(0, 3, 2), 62);
        Due.is("side 1 has not", war.chairIs(1, 3, 2), 63);
        order(war, ">3L8", 1);
        Due.is("side 0 has no more", war.chairIs(0, 3, 2), 62);
        Due.is("side 1 has it", war.chairIs(1, 3, 2), 71);
        for (int sign = 0; sign < 256; sign++) {
            if (sign != '<' && sign != '>') {
                fault((char) sign + "3L9", -1000);
            }
        }
        Due.says("a digit 0 to 7 (CHAIR),");
        for (int sign = 0; sign < 256; sign++) {
            if (sign >= '0' && sign <= '7') {
                VerandaWar all = full();
                order(all, "<" + (char) sign + "I", 1);
                Due.is("who", all.count(13), 1 << sign - '0');
            } else {
                fault("<" + (char) sign + "I", -1001);
            }
        }
    }

    private static void gifts() {
        Due.says("then L and a number (so much LEMONADE more, 99 at most),");
        VerandaWar war = new VerandaWar();
        war.chair(0, 0, 0, 0, 0);
        int[] more = {0, 1, 97, 1, 1, 99};
        int[] then = {0, 1, 98, 99, 99, 99};
        for (int i = 0; i < more.length; i++) {
            order(war, "<0L" + more[i], 1);
            Due.is("then", war.chairIs(0, 0, 2), then[i]);
        }
        war.chair(0, 0, 0, 1, 0);
        order(war, "<0L99", 1);
        Due.is("not 100", war.chairIs(0, 0, 2), 99);
        Due.says("or C and a number (so many CUSHIONS),");
        for (int cushions = 9; cushions >= 0; cushions--) {
            order(war, "<0C" + cushions, 1);
            Due.is("so many, not more", war.chairIs(0, 0, 3), cushions);
        }
        order(war, "<0C09", 1);
        Due.is("09 is 9", war.chairIs(0, 0, 3), 9);
    }

    private static void changes() {
        Due.says("or G and a digit 0 to 7 (he changes CHAIRS with that one on his side, CUSHIONS stay),");
        for (int sign = 0; sign < 256; sign++) {
            if (sign >= '0' && sign <= '7') {
                VerandaWar war = full();
                order(war, ">2G" + (char) sign, 1);
                int c = sign - '0';
                Due.is("rank there", war.chairIs(1, c, 0), 7);
                Due.is("lemonade there", war.chairIs(1, c, 2), 62);
                Due.is("rank here", war.chairIs(1, 2, 0), 9 - c);
                Due.is("lemonade here", war.chairIs(1, 2, 2), 60 + c);
                Due.is("cushions there", war.chairIs(1, c, 3), c);
                Due.is("cushions here", war.chairIs(1, 2, 3), 2);
                Due.is("the other side", war.chairIs(0, 2, 0), 2);
                Due.is("the other side there", war.chairIs(0, c, 0), c);
            } else {
                fault(">2G" + (char) sign, -1003);
            }
        }
        VerandaWar war = full();
        Due.law(war, "b5+c(1=1);w10(c=1);x(c=2)");
        war.watches(1);
        order(war, "<1G2;<2G7", 2);
        Due.is("who was in stays in", war.chairIs(0, 1, 4), 2);
        Due.is("he is as bored", war.chairIs(0, 1, 1), 7);
        Due.is("who was at dinner stays there", war.chairIs(0, 7, 4), 1);
        Due.is("he is as bored, too", war.chairIs(0, 7, 1), 6);
        Due.is("who sat sits", war.chairIs(0, 2, 4), 0);
        Due.is("he is as bored as he was", war.chairIs(0, 2, 1), 12);
    }

    private static void inAndOut() {
        Due.says("or I (he goes IN),");
        VerandaWar war = full();
        Due.law(war, "b7(1=1);w10(c=1);x(c=2)");
        war.watches(1);
        for (int c = 0; c < 3; c++) {
            order(war, "<" + c + "I", 1);
            Due.is("is in", war.chairIs(0, c, 4), 2);
            Due.is("as bored", war.chairIs(0, c, 1), 7);
            Due.is("lemonade stays", war.chairIs(0, c, 2), 50 + c);
        }
        order(war, "<3I;<4I;<5I;<6I;<7I", 5);
        Due.is("all of side 0 are in", war.count(13), 255);
        Due.is("none has lost by it", war.count(2), 0);
        Due.says("or O (he comes out again, if he is IN, or from DINNER: SITS, BOREDOM 0 if he was IN);");
        war = full();
        Due.law(war, "b7(1=1);w10(c=1);x(c=2)");
        war.watches(1);
        int[] bored = {7, 7, 0};
        for (int c = 0; c < 3; c++) {
            order(war, "<" + c + "O", 1);
            Due.is("sits", war.chairIs(0, c, 4), 0);
            Due.is("boredom then", war.chairIs(0, c, 1), bored[c]);
            Due.is("lemonade stays", war.chairIs(0, c, 2), 50 + c);
        }
        Due.is("the others stay", war.count(22), 2);
        Due.is("the others stay in", war.count(23), 4);
    }

    private static void faults() {
        Due.says("numbers of one or two digits.");
        VerandaWar war = full();
        order(war, "<0L7", 1);
        order(war, "<0L07", 1);
        order(war, "<0L10", 1);
        order(war, "<0L00", 1);
        Due.is("24 more", war.chairIs(0, 0, 2), 74);
        fault("<0L", -1003);
        fault("<0C;", -1003);
        Due.says("FAULTS, the first from the left: 1 what can't stand there (the end, too);");
        String[] texts = {"<", "<0", "<0L", "<0C", "<0G", "<0I;", "<0L5;<", "<0L5;>7", "<0L5;>7L"};
        for (String text : texts) {
            fault(text, -1000 - text.length());
            fault(text + "x", -1000 - text.length());
            fault(text + "x<9L999", -1000 - text.length());
        }
        fault("<9L999;<0C10", -1001);
        fault("<0L999;<9", -2005);
        fault("<0C10;<9", -3003);
        fault("<0l5", -1002);
        fault("<0LI", -1003);
        fault("<0L-5", -1003);
        fault("<0I5", -1003);
        fault("<0O0", -1003);
        fault("<0G10", -1004);
        fault("<0L5x", -1004);
        fault("<0L55x", -1005);
        Due.says("2 a third digit, at it;");
        fault("<0L123", -2005);
        fault("<0L000", -2005);
        fault("<0L1234", -2005);
        fault("<0L5;>3L990", -2010);
        fault("<0C009", -2005);
        fault("<0C123", -2005);
        Due.says("3 CUSHIONS above 9, at the number's first digit (asked when it ends);");
        fault("<0C10", -3003);
        fault("<0C99", -3003);
        fault("<0C10;<0I", -3003);
        fault("<0C10x", -3003);
        fault("<0C100", -2005);
        fault("<0L5;>3C10", -3008);
        order(full(), "<0C9", 1);
        order(full(), "<0L10", 1);
    }

    private static void manyLines() {
        Due.says("4 a 21st LINE, at its side (if that can stand there);");
        String twenty = lines(20, "<0I");
        fault(twenty + ";<", -4080);
        fault(twenty + ";>", -4080);
        fault(twenty + ";<0I", -4080);
        fault(twenty + ";<9", -4080);
        fault(twenty + ";", -1080);
        fault(twenty + ";=", -1080);
        fault(twenty + ";;", -1080);
        fault(twenty + "<", -1079);
        fault(lines(19, "<0I") + ";<9;<0I;<0I", -1077);
    }

    private static void emptyChairs() {
        Due.says("7 an empty CHAIR, at its digit (G: the other one may be empty).");
        VerandaWar war = new VerandaWar();
        war.chair(0, 2, 5, 50, 0);
        for (int c = 0; c < 8; c++) {
            order(war, ">" + c + "I", -7001);
            order(war, "<" + c + "L0", c == 2 ? 1 : -7001);
            order(war, "<2L0;<" + c + "O", c == 2 ? 2 : -7006);
        }
        order(war, "<0", -7001);
        order(war, "<0x", -7001);
        order(war, "<0C10", -7001);
        order(war, "<8", -1001);
        order(war, "<2G6", 1);
        Due.is("he is in the other one", war.count(10), 64);
        Due.says("Nothing is done by ORDERS with a FAULT;");
        fault("<0L5;<1C9;<2G3;<4I;>5O;>6L99;>7I;<8", -1034);
        fault("<0L5;<1C9;<2G3;<4I;>5O;>6L99;>7I;", -1033);
        fault("<0L5;<1C9;<2G3;<4I;>5O;>6L999", -2028);
        fault("<0L5;<1C9;<2G3;<4I;>5O;>6C10", -3026);
        Due.says("a CHAIR that a LINE ahead has emptied is empty.");
        order(war, "<6G2;<6I", -7006);
        Due.is("he has not moved", war.count(10), 64);
        order(war, "<6G2;<2L5", 2);
        Due.is("he has moved", war.count(10), 4);
        order(war, "<2G0;<0G2;<2L5", 3);
        order(war, "<2G0;<2G1", -7006);
        order(war, "<2G0;<0G1;<0I", -7011);
        order(war, "<2G2;<2L5", 2);
        Due.is("15 more", war.chairIs(0, 2, 2), 65);
    }
}
