/** Promises 1 to 17, sentence by sentence. */
final class EdgesOfPromises {
    private EdgesOfPromises() {
    }

    static void all() {
        aNewObject();
        chair();
        floorAndColumn();
        feed();
        law();
        orders();
        signals();
        watches();
        tried();
        chairIs();
        sees();
        toSee();
        overTrees();
        hidden();
        capture();
        capturesRefused();
        whenIn();
    }

    private static void aNewObject() {
        Due.says("Empty CHAIRS, no LAW, SIGNALS; THE SEED 1.");
        VerandaWar war = new VerandaWar();
        Due.is("chairs of side 0", war.count(10), 0);
        Due.is("chairs of side 1", war.count(20), 0);
        Due.is("rules", war.count(3), 0);
        Due.is("signals of side 0", war.count(15), 0);
        Due.is("signals of side 1", war.count(25), 0);
        Due.is("X", war.count(5), 1);
        Due.is("the tape", war.count(4), 0);
        Due.is("who has lost", war.count(2), 0);
    }

    private static void chair() {
        Due.says("A GENTLEMAN (in place of the one before: SITS, BOREDOM 0; who LOST is forgotten): true;");
        VerandaWar war = Wars.two();
        Due.law(war, "b7(1=1);x(s=0)");
        war.watches(1);
        Due.is("he is in", war.chairIs(0, 0, 4), 2);
        Due.is("side 0 has lost", war.count(2), 1);
        Due.is("another one", war.chair(0, 0, 9, 8, 7), true);
        int[] want = {9, 0, 8, 7, 0};
        for (int what = 0; what < 5; what++) {
            Due.is("what " + what, war.chairIs(0, 0, what), want[what]);
        }
        Due.is("forgotten", war.count(2), 0);
        Due.is("the other one stays as he is", war.chairIs(1, 0, 1), 7);
        war = Wars.two();
        Due.law(war, "x(1=1)");
        war.watches(1);
        Due.is("both have lost", war.count(2), 3);
        war.chair(1, 4, 1, 1, 1);
        Due.is("both are forgotten", war.count(2), 0);
        Due.is("on another chair: who is in stays in", war.count(23), 1);
        Due.law(war, "w10(1=1)");
        war.watches(1);
        Due.is("at dinner", war.chairIs(1, 4, 4), 1);
        war.chair(1, 4, 1, 1, 1);
        Due.is("sits", war.chairIs(1, 4, 4), 0);
        Due.says("false: no such ones.");
        Due.noOther("side", n -> Due.refused(new VerandaWar().chair(n, 0, 0, 0, 0)), 0, 1);
        Due.noOther("chair", n -> Due.refused(new VerandaWar().chair(1, n, 0, 0, 0)), Due.range(0, 7));
        Due.noOther("rank", n -> Due.refused(new VerandaWar().chair(1, 0, n, 0, 0)), Due.range(0, 9));
        Due.noOther("lemonade", n -> Due.refused(new VerandaWar().chair(1, 0, 0, n, 0)), Due.range(0, 99));
        Due.noOther("cushions", n -> Due.refused(new VerandaWar().chair(1, 0, 0, 0, n)), Due.range(0, 9));
        war = Wars.two();
        Due.law(war, "x(1=1)");
        war.watches(1);
        war.chair(0, 0, 10, 0, 0);
        Due.is("who lost is not forgotten by it", war.count(2), 3);
        Due.is("nobody came", war.chairIs(0, 0, 4), 2);
    }

    private static void floorAndColumn() {
        Due.says("A FLOOR: true; false: no such ones.");
        Due.noOther("side", n -> Due.refused(new VerandaWar().floor(n, 5)), 0, 1);
        Due.noOther("height", n -> Due.refused(new VerandaWar().floor(0, n)), Due.range(0, 99));
        Due.says("A COLUMN: true; false: no such ones.");
        Due.noOther("column", n -> Due.refused(new VerandaWar().column(n, 5)), Due.range(0, 23));
        Due.noOther("height", n -> Due.refused(new VerandaWar().column(0, n)), Due.range(0, 199));
    }

    private static void feed() {
        Due.says("Twenty bytes come behind the tape, the highest of each int first: how many it has;");
        VerandaWar war = new VerandaWar();
        // Wood of 1 to 8, then what is above 99: it is behind them, and the ants do not see it.
        Due.is("twenty", war.feed(0x01020304, 0x05060708, -1, -1, -1), 20);
        Due.is("the sum of 1 to 8", war.ants(0, 7), 36);
        war.feed(0x01020304, 0x05060708, -1, -1, -1);
        Due.is("the first", war.ants(0, 0), 1);
        Due.is("empty, then twenty", war.feed(0x08070605, 0x04030201, 0, 0, 0), 20);
        Due.is("forty", war.feed(-1, -1, -1, -1, -1), 40);
        Due.is("those ahead stay ahead", war.ants(0, 1), 15);
        war.feed(Integer.MIN_VALUE, 0, 0, 0, 0);
        Due.is("bytes have no sign: 128", war.parrots(1, 1, 0), -2);
        // A text that goes on from one feed into the next.
        war.feed(0x61616161, 0x61616161, 0x61616161, 0x61616161, 0x61616162);
        war.feed(0x63646561, 0x61616161, 0x61616161, 0x61616161, 0x61616161);
        Due.is("24 lamps", war.signals(0, 24), 24);
        int[] lamps = {0, 20, 1, 1, 1, 1};
        for (int sign = 0; sign < 6; sign++) {
            Due.is("lamp " + sign, war.lamps(0, sign), lamps[sign]);
        }
        Due.says("NONE if that would be more than 260.");
        for (int i = 1; i <= 13; i++) {
            Due.is("feed " + i, war.feed(0, 0, 0, 0, 0), 20 * i);
        }
        Due.is("260 and twenty", war.feed(0, 0, 0, 0, 0), -1);
        Due.is("still", war.feed(-1, -1, -1, -1, -1), -1);
        Due.is("260", war.count(4), 260);
        war.check(0, 0);
        Due.is("again", war.feed(0, 0, 0, 0, 0), 20);
    }

    private static void law() {
        Due.says("THE LAW by the first n bytes of the tape (1 to 240; empty then), in place of the one before: how many RULES;");
        VerandaWar war = Wars.two();
        Due.feed(war, "b7(1=1);b8(1=1)");
        war.feed(0, 0, 0, 0, 0);
        Due.is("seven of forty bytes", war.law(7), 1);
        Due.is("empty then", war.count(4), 0);
        Due.is("boredom", war.tried(1, 10), 7);
        Due.is("two rules", Due.law(war, "b9(s=1);t3(1=1)"), 2);
        Due.is("rules", war.count(3), 2);
        Due.is("in place of the one before", war.tried(1, 10), 0);
        Due.is("side 1", war.tried(1, 20), 9);
        Due.feed(war, "?");
        Due.is("one byte", war.law(1), -1000);
        VerandaWar often = Wars.two();
        for (int i = 0; i < 60; i++) {
            Due.is("again and again", Due.law(often, "x(1=2&1=2|1=2&(1=2|2=1));b" + i + "+0*1+0*1(1=1|2=1|2=1)"), 2);
            Due.is("the newest one", often.tried(1, 10), i);
        }
        Due.says("a FAULT: -1000 times its number, less its place (the one before stays);");
        String[] texts = {"?", "b", "b123456", "b12345?", "x(((((((", "b1(1=1);b1+?(1=1)"};
        int[] faults = {-1000, -1001, -2006, -1006, -5007, -1011};
        String before = Picture.of(war);
        for (int i = 0; i < texts.length; i++) {
            Due.is(texts[i], Due.law(war, texts[i]), faults[i]);
            Due.is("empty then, " + texts[i], war.count(4), 0);
            Due.is("the one before stays, " + texts[i], Picture.of(war).equals(before), true);
        }
        StringBuilder begun = new StringBuilder("b1");
        while (begun.length() < 240) {
            begun.append("+1");
        }
        Due.is("at the end of 240", Due.law(war, begun.toString()), -1240);
        Due.says("NONE: no such n, it has not so many (the tape stays).");
        Due.feed(war, "b5(1=1)" + " ".repeat(240));
        Due.noOther("n", n -> {
            VerandaWar full = Wars.two();
            Due.feed(full, "b5(1=1)" + " ".repeat(240));
            int answer = full.law(n);
            Due.is("the tape, n " + n, full.count(4), answer == -1 ? 260 : 0);
            return answer;
        }, Due.range(1, 240));
        Due.is("refused", war.law(241), -1);
        Due.is("the tape has what it had", war.law(7), 1);
        Due.is("none on an empty tape", war.law(1), -1);
        war.feed(0x78000000, 0, 0, 0, 0);
        Due.is("21 of twenty", war.law(21), -1);
        Due.is("twenty stay", war.count(4), 20);
        Due.is("twenty of twenty", war.law(20), -1001);
    }

    private static void orders() {
        Due.says("ORDERS by the first n bytes of the tape (1 to 120; empty then): how many LINES;");
        VerandaWar war = Wars.two();
        Due.feed(war, "<0L5;>0L5");
        war.feed(0, 0, 0, 0, 0);
        Due.is("four of forty bytes", war.orders(4), 1);
        Due.is("empty then", war.count(4), 0);
        Due.is("the first line", war.chairIs(0, 0, 2), 55);
        Due.is("not the second", war.chairIs(1, 0, 2), 60);
        Due.is("two lines", Due.orders(war, "<0L5;>0L5"), 2);
        Due.says("a FAULT; NONE: as above.");
        String before = Picture.of(war);
        String[] texts = {"?", "<", "<0L5;<0L555", "<0C10", "<1I"};
        int[] faults = {-1000, -1001, -2010, -3003, -7001};
        for (int i = 0; i < texts.length; i++) {
            Due.is(texts[i], Due.orders(war, texts[i]), faults[i]);
            Due.is("nothing else, " + texts[i], Picture.of(war).equals(before), true);
        }
        Due.noOther("n", n -> {
            VerandaWar full = Wars.two();
            Due.feed(full, "<0L5" + " ".repeat(243));
            int answer = full.orders(n);
            Due.is("the tape, n " + n, full.count(4), answer == -1 ? 260 : 0);
            return answer;
        }, Due.range(1, 120));
        Due.is("none on an empty tape", war.orders(1), -1);
        Due.feed(war, "<0L5");
        Due.is("21 of twenty", war.orders(21), -1);
        Due.is("the tape has what it had", war.orders(4), 1);
    }

    private static void signals() {
        Due.says("SIGNALS of a side by the first n bytes of the tape (1 to 40; empty then), in place of those before: how many LAMPS;");
        VerandaWar war = new VerandaWar();
        Due.feed(war, "2(ab)ccc");
        war.feed(0, 0, 0, 0, 0);
        Due.is("five of forty bytes", war.signals(1, 5), 4);
        Due.is("empty then", war.count(4), 0);
        Due.is("side 1", war.count(25), 4);
        Due.is("not side 0", war.count(15), 0);
        Due.is("shorter ones", Due.signals(war, 1, "e"), 1);
        Due.is("in place of those before", war.count(25), 1);
        Due.is("no a any more", war.lamps(1, 1), 0);
        Due.says("a FAULT;");
        String before = Picture.of(war);
        String[] texts = {"?", "2", "(((", "7(9a)"};
        int[] faults = {-1000, -1001, -5002, -6000};
        for (int i = 0; i < texts.length; i++) {
            Due.is(texts[i], Due.signals(war, 1, texts[i]), faults[i]);
            Due.is("nothing else, " + texts[i], Picture.of(war).equals(before), true);
        }
        Due.says("NONE: no such ones, it has not so many (the tape stays).");
        Due.noOther("n", n -> {
            VerandaWar full = new VerandaWar();
            Due.feed(full, "a" + " ".repeat(246));
            int answer = full.signals(0, n);
            Due.is("the tape, n " + n, full.count(4), answer == -1 ? 260 : 0);
            return answer;
        }, Due.range(1, 40));
        Due.noOther("side", n -> {
            VerandaWar full = new VerandaWar();
            Due.feed(full, "a");
            return full.signals(n, 1);
        }, 0, 1);
        Due.is("none on an empty tape", war.signals(0, 1), -1);
        Due.feed(war, "abc");
        Due.is("21 of twenty", war.signals(0, 21), -1);
        Due.is("side 2", war.signals(2, 3), -1);
        Due.is("the tape has what it had", war.signals(0, 3), 3);
    }

    private static void watches() {
        Due.says("WATCHES (1 to 120; as many as can) go by: how many went IN;");
        VerandaWar war = Wars.two();
        Due.law(war, "x(h=3&d=1)");
        Due.is("nine", war.watches(9), 0);
        Due.is("day 1", war.count(0), 1);
        Due.is("watch 3", war.count(1), 3);
        Due.is("as many as can of 120", war.watches(120), 2);
        Due.is("one could", war.count(1), 4);
        Due.is("none can", war.watches(120), 0);
        war = Wars.two();
        Due.is("120", war.watches(120), 0);
        Due.is("twenty days", war.count(0), 20);
        Due.is("and no watch", war.count(1), 0);
        Due.is("one", war.watches(1), 0);
        Due.is("one watch", war.count(1), 1);
        Due.says("NONE: no such n.");
        Due.noOther("n", n -> Wars.two().watches(n), Due.range(1, 120));
        war.watches(121);
        war.watches(0);
        Due.is("none went by", war.count(1), 1);
    }

    private static void tried() {
        Due.says("WATCHES (1 to 120; as many as can) that are tried, what 0 how many went IN, 1 calls to DINNER, 2 LEMONADE drunk, 3 who "
            + "LOST then (bits),");
        VerandaWar war = Wars.two();
        war.chair(0, 3, 0, 20, 0);
        Due.law(war, "t6(1=1);w10(h=1)");
        int[][] want = {{0, 0, 18, 0}, {0, 3, 36, 0}, {0, 3, 54, 0}, {1, 3, 68, 0}, {1, 3, 80, 0}};
        for (int n = 1; n <= want.length; n++) {
            for (int what = 0; what < 4; what++) {
                Due.is(n + " watches, what " + what, war.tried(n, what), want[n - 1][what]);
            }
        }
        Due.is("in behind all", war.tried(120, 0), 2);
        Due.is("drunk till side 0 has lost", war.tried(120, 2), 50 + 20 + 54);
        Due.is("lost", war.tried(120, 3), 1);
        Due.is("calls", war.tried(120, 1), 5);
        war.watches(120);
        Due.is("lost, none can go by", war.tried(1, 3), 1);
        Due.is("in, none can go by", war.tried(1, 0), 0);
        Due.is("drunk, none can go by", war.tried(1, 2), 0);
        Due.says("10 + c, 20 + c BOREDOM of the GENTLEMAN in CHAIR c of side 0, 1 then;");
        war = new VerandaWar();
        for (int c = 0; c < 8; c++) {
            war.chair(0, c, 0, 50, 0);
            war.chair(1, c, 0, 50, 0);
        }
        Due.law(war, "b1+c+10*s(1=1)");
        for (int c = 0; c < 8; c++) {
            Due.is("side 0, " + c, war.tried(3, 10 + c), 3 * (1 + c));
            Due.is("side 1, " + c, war.tried(3, 20 + c), 3 * (11 + c));
        }
        Due.orders(war, "<0I");
        Due.is("who is in is no more bored", war.tried(3, 10), 0);
        Due.says("NONE: no such ones.");
        VerandaWar full = war;
        Due.noOther("n", n -> full.tried(n, 0), Due.range(1, 120));
        int[] good = new int[20];
        for (int c = 0; c < 8; c++) {
            good[c] = 10 + c;
            good[8 + c] = 20 + c;
        }
        for (int what = 0; what < 4; what++) {
            good[16 + what] = what;
        }
        Due.noOther("what", what -> full.tried(1, what), good);
        VerandaWar some = Wars.two();
        Due.noOther("what, where most are empty", what -> some.tried(1, what), 0, 1, 2, 3, 10, 20);
    }

    private static void chairIs() {
        Due.says("Of a GENTLEMAN, what 0 RANK, 1 BOREDOM, 2 LEMONADE, 3 CUSHIONS, 4 0 SITS, 1 at DINNER, 2 IN,");
        VerandaWar war = new VerandaWar();
        war.chair(0, 2, 9, 99, 9);
        war.chair(1, 5, 0, 33, 4);
        Due.law(war, "b5(s=1);t2(s=1)");
        war.watches(1);
        int[] near = {9, 0, 99, 9, 0};
        int[] far = {0, 5, 31, 4, 0};
        for (int what = 0; what < 5; what++) {
            Due.is("side 0, what " + what, war.chairIs(0, 2, what), near[what]);
            Due.is("side 1, what " + what, war.chairIs(1, 5, what), far[what]);
        }
        Due.law(war, "w10(s=0);x(s=1)");
        war.watches(1);
        Due.is("at dinner", war.chairIs(0, 2, 4), 1);
        Due.is("in", war.chairIs(1, 5, 4), 2);
        Due.says("5 whom that SIT he sees across (bits), 6 how high his eye is;");
        war = new VerandaWar();
        for (int c = 0; c < 8; c++) {
            war.chair(0, c, 0, 50, c);
            war.chair(1, c, 0, 50, c);
        }
        Due.is("all", war.chairIs(0, 0, 5), 255);
        war.column(0, 60);
        int[] seen = {0, 0, 248, 255, 255, 255, 255, 255};
        for (int c = 0; c < 8; c++) {
            Due.is("side 0, " + c, war.chairIs(0, c, 5), seen[c]);
            Due.is("side 1, " + c, war.chairIs(1, c, 5), c < 3 ? 248 : 252);
            Due.is("eye of " + c, war.chairIs(0, c, 6), 50 + 5 * c);
        }
        // Cushions count for much at the near end, for little at the far one.
        Due.orders(war, ">0C9");
        Due.is("high in chair 0 of side 1", war.chairIs(1, 0, 5), 252);
        Due.is("low ones are not seen by him", war.chairIs(0, 1, 5), 0);
        Due.orders(war, ">0C0;<0C9");
        Due.is("high in chair 0 of side 0", war.chairIs(0, 0, 5), 255);
        Due.is("he is seen by all", war.chairIs(1, 2, 5), 249);
        Due.orders(war, "<0C0;<7I;>0I;>7I");
        Due.is("only who sits is seen", war.chairIs(0, 3, 5), 126);
        Due.is("who is in sees", war.chairIs(1, 7, 5), 124);
        Due.is("who is in has an eye", war.chairIs(1, 7, 6), 85);
        Due.is("who is in sees, side 0", war.chairIs(0, 7, 5), 126);
        Due.law(war, "w10(c=6)");
        war.watches(1);
        Due.is("who is at dinner sees", war.chairIs(0, 6, 5), 62);
        Due.is("who is at dinner sees, side 1", war.chairIs(1, 6, 5), 60);
        Due.is("who is at dinner is not seen", war.chairIs(0, 3, 5), 62);
        Due.says("NONE for others, of empty CHAIRS.");
        VerandaWar full = war;
        Due.noOther("what", what -> full.chairIs(0, 0, what), Due.range(0, 6));
        Due.noOther("chair", c -> full.chairIs(0, c, 0), Due.range(0, 7));
        Due.noOther("side", side -> full.chairIs(side, 0, 0), 0, 1);
        for (int what = 0; what < 7; what++) {
            Due.is("empty, what " + what, Wars.two().chairIs(0, 1, what), -1);
            Due.is("empty across, what " + what, Wars.two().chairIs(1, 7, what), -1);
        }
    }

    private static void sees() {
        Due.says("Whether the GENTLEMAN in CHAIR c of side 0 SEES the one in CHAIR e of side 1 (1, 0; where they are);");
        VerandaWar war = new VerandaWar();
        war.chair(0, 3, 0, 50, 9);
        war.chair(0, 4, 0, 50, 0);
        war.chair(1, 6, 0, 50, 0);
        war.column(0, 60);
        Due.is("the high one", war.sees(3, 6), 1);
        Due.is("the low one", war.sees(4, 6), 0);
        Due.orders(war, "<3I;>6I");
        Due.is("in", war.sees(3, 6), 1);
        Due.is("in, the low one", war.sees(4, 6), 0);
        Due.orders(war, "<3O;>6O");
        Due.law(war, "w10(1=1)");
        war.watches(1);
        Due.is("at dinner", war.sees(3, 6), 1);
        VerandaWar four = new VerandaWar();
        four.chair(0, 2, 0, 50, 0);
        four.chair(0, 5, 0, 50, 9);
        four.chair(1, 2, 0, 50, 9);
        four.chair(1, 5, 0, 50, 0);
        four.column(11, 60);
        Due.is("low, high", four.sees(2, 2), 1);
        Due.is("low, low", four.sees(2, 5), 0);
        Due.is("high, high", four.sees(5, 2), 1);
        Due.is("high, low", four.sees(5, 5), 1);
        Due.says("NONE: no such ones.");
        Due.noOther("chair", c -> war.sees(c, 6), 3, 4);
        Due.noOther("chair across", e -> war.sees(3, e), 6);
        Due.is("the other way round", war.sees(6, 3), -1);
    }

    private static void toSee() {
        Due.says("TO SEE the one in CHAIR e across: CUSHIONS more (0: he does); -2: not by any;");
        VerandaWar war = new VerandaWar();
        war.chair(0, 3, 0, 50, 2);
        war.chair(1, 6, 0, 50, 0);
        Due.is("he does", war.toSee(0, 3, 6), 0);
        war.column(0, 92);
        Due.is("seven more: nine", war.toSee(0, 3, 6), 7);
        war.column(0, 94);
        Due.is("not by any", war.toSee(0, 3, 6), -2);
        Due.orders(war, "<3C9");
        war.column(0, 93);
        Due.is("with nine he does", war.toSee(0, 3, 6), 0);
        war.column(0, 94);
        Due.is("with nine not by any", war.toSee(0, 3, 6), -2);
        Due.is("five more from afar", war.toSee(1, 6, 3), 5);
        Due.orders(war, "<3I;>6I");
        Due.is("in", war.toSee(1, 6, 3), 5);
        VerandaWar floors = new VerandaWar();
        floors.chair(0, 3, 0, 50, 0);
        floors.chair(1, 6, 0, 50, 0);
        floors.floor(0, 20);
        floors.floor(1, 80);
        floors.column(12, 60);
        Due.is("from the low floor", floors.toSee(0, 3, 6), 4);
        Due.is("from the high floor", floors.toSee(1, 6, 3), 4);
        floors.column(0, 30);
        Due.is("a column near the low one", floors.toSee(1, 6, 3), -2);
        Due.is("he sees over it", floors.toSee(0, 3, 6), 4);
        floors.chair(1, 6, 0, 50, 9);
        Due.is("to one who is higher now", floors.toSee(0, 3, 6), 2);
        Due.says("NONE: no such ones.");
        Due.noOther("side", side -> Wars.two().toSee(side, 0, 0), 0, 1);
        Due.noOther("chair", c -> war.toSee(0, c, 6), 3);
        Due.noOther("chair across", e -> war.toSee(0, 3, e), 6);
        Due.noOther("chair of side 1", c -> war.toSee(1, c, 3), 6);
        Due.noOther("chair across side 1", e -> war.toSee(1, 6, e), 3);
    }

    private static void overTrees() {
        Due.says("OVER THE TREES, what 0 twos, 1 the COLUMN (-2: none by which more would), 2 how many more;");
        VerandaWar war = Wars.two();
        int[] free = {1, -2, 0};
        int[] hidden = {0, 23, 1};
        for (int what = 0; what < 3; what++) {
            Due.is("free, what " + what, war.overTrees(what), free[what]);
        }
        war.column(23, 50);
        for (int what = 0; what < 3; what++) {
            Due.is("hidden, what " + what, war.overTrees(what), hidden[what]);
        }
        Due.says("NONE: no such what.");
        Due.noOther("what", what -> war.overTrees(what), 0, 1, 2);
    }

    private static void hidden() {
        Due.says("HIDDEN, what 0 how many in all, 1 which of side 0, 2 of side 1 (bits);");
        VerandaWar war = new VerandaWar();
        for (int c = 0; c < 8; c++) {
            war.chair(0, c, 0, 50, 0);
            war.chair(1, c, 0, 50, 0);
        }
        int[] all = {8, 0, 255};
        for (int what = 0; what < 3; what++) {
            Due.is("all, what " + what, war.hidden(what), all[what]);
            Due.is("nobody, what " + what, new VerandaWar().hidden(what), 0);
        }
        Due.orders(war, "<0I");
        int[] seven = {7, 254, 0};
        for (int what = 0; what < 3; what++) {
            Due.is("seven, what " + what, war.hidden(what), seven[what]);
        }
        Due.is("nobody goes really", war.count(11), 254);
        Due.says("NONE: no such what.");
        Due.noOther("what", what -> war.hidden(what), 0, 1, 2);
    }

    /** In the night: chairs 1 and 2 of side 0 sit on 8 and 0 cushions; of side 1 chair 3 is in on 2, chair 4 sits on 2. */
    private static VerandaWar night() {
        VerandaWar war = new VerandaWar();
        war.chair(0, 1, 0, 50, 8);
        war.chair(0, 2, 0, 50, 0);
        war.chair(1, 3, 0, 50, 2);
        war.chair(1, 4, 0, 50, 2);
        war.watches(5);
        Due.orders(war, ">3I");
        return war;
    }

    private static void capture() {
        Due.says("A CUSHION is captured in the night (WATCH 5) by a GENTLEMAN that SITS from one across that he SEES and that does not SIT: "
            + "true;");
        VerandaWar war = night();
        Due.is("captured", war.capture(0, 1, 3), true);
        Due.is("one more", war.chairIs(0, 1, 3), 9);
        Due.is("one less", war.chairIs(1, 3, 3), 1);
        Due.is("the last one there", war.capture(0, 2, 3), true);
        Due.is("has one", war.chairIs(0, 2, 3), 1);
        Due.is("has none", war.chairIs(1, 3, 3), 0);
        war = night();
        Due.orders(war, "<1I;>4C8");
        Due.is("by side 1", war.capture(1, 4, 1), true);
        Due.is("he has nine", war.chairIs(1, 4, 3), 9);
        Due.is("of eight seven are left", war.chairIs(0, 1, 3), 7);
        war = night();
        Due.law(war, "w10(s=1)");
        war.watches(6);
        Due.is("night again", war.count(1), 5);
        Due.is("from one at dinner", war.capture(0, 2, 4), true);
        war = night();
        war.column(0, 56);
        Due.is("who sees him", war.capture(0, 1, 3), true);
        Due.is("who does not", war.capture(0, 2, 3), false);
        for (int side = 0; side < 2; side++) {
            int high = side == 0 ? 5 : 2;
            int low = 7 - high;
            Due.is("low from low, side " + side, highAndLow(side).capture(side, low, high), false);
            Due.is("low from high, side " + side, highAndLow(side).capture(side, low, low), true);
            Due.is("high from low, side " + side, highAndLow(side).capture(side, high, high), true);
            Due.is("high from high, side " + side, highAndLow(side).capture(side, high, low), true);
            VerandaWar raised = highAndLow(side);
            raised.chair(side, low, 0, 50, 8);
            Due.is("another one who is high, side " + side, raised.capture(side, low, high), true);
        }
    }

    /** In the night: on each side chair 2 and chair 5, a low and a high one; those of one side are in. */
    private static VerandaWar highAndLow(int taking) {
        VerandaWar war = new VerandaWar();
        int high = taking == 0 ? 5 : 2;
        int highIn = 7 - high;
        war.chair(taking, 7 - high, 0, 50, 1);
        war.chair(taking, high, 0, 50, 8);
        war.chair(1 - taking, highIn, 0, 50, 9);
        war.chair(1 - taking, 7 - highIn, 0, 50, 1);
        war.column(11, 65);
        war.watches(5);
        Due.orders(war, taking == 0 ? ">2I;>5I" : "<2I;<5I");
        return war;
    }

    private static void capturesRefused() {
        Due.says("false: no such ones, not in that WATCH, none there, he has 9.");
        Due.noOther("side", side -> Due.refused(night().capture(side, 1, 3)), 0);
        Due.noOther("chair", c -> Due.refused(night().capture(0, c, 3)), 1, 2);
        Due.noOther("chair across", e -> Due.refused(night().capture(0, 1, e)), 3);
        VerandaWar war = night();
        Due.orders(war, "<1I");
        Due.is("by one who is in", war.capture(0, 1, 3), false);
        Due.law(war, "w10(c=2)");
        war.watches(6);
        Due.is("by one at dinner", war.capture(0, 2, 3), false);
        war = night();
        for (int watch = 0; watch < 5; watch++) {
            war.watches(1);
            Due.is("in watch " + watch, war.capture(0, 1, 3), false);
        }
        war.watches(1);
        Due.is("in watch 5", war.capture(0, 1, 3), true);
        Due.is("he has 9", war.capture(0, 1, 3), false);
        Due.is("there is one still", war.chairIs(1, 3, 3), 1);
        Due.is("to the other one", war.capture(0, 2, 3), true);
        Due.is("none there", war.capture(0, 2, 3), false);
        Due.is("nine are nine", war.chairIs(0, 1, 3), 9);
        Due.is("one is one", war.chairIs(0, 2, 3), 1);
        Due.is("none is none", war.chairIs(1, 3, 3), 0);
    }

    private static void whenIn() {
        Due.says("WHEN a GENTLEMAN goes IN, in n WATCHES (1 to 120): behind how many (0: he is IN); -2: not in these;");
        VerandaWar war = Wars.two();
        Due.law(war, "x(s=0&d=19&h=5)");
        Due.is("behind 120", war.whenIn(0, 0, 120), 120);
        Due.is("not in 119", war.whenIn(0, 0, 119), -2);
        Due.is("not at all", war.whenIn(1, 0, 120), -2);
        Due.law(war, "x(s=0)");
        Due.is("behind one", war.whenIn(0, 0, 1), 1);
        Due.orders(war, "<0I");
        Due.is("he is in", war.whenIn(0, 0, 1), 0);
        Due.is("he is in, of 120", war.whenIn(0, 0, 120), 0);
        Due.orders(war, "<0O");
        war.watches(1);
        Due.is("side 0 has lost, so that nobody goes any more", war.whenIn(1, 0, 120), -2);
        Due.is("he is in since", war.whenIn(0, 0, 120), 0);
        Due.says("NONE: no such ones.");
        Due.noOther("side", side -> Wars.two().whenIn(side, 0, 1), 0, 1);
        Due.noOther("chair", c -> Wars.two().whenIn(0, c, 1), 0);
        Due.noOther("n", n -> Wars.two().whenIn(0, 0, n), Due.range(1, 120));
        Due.noOther("n of one who is in", n -> war.whenIn(0, 0, n), Due.range(1, 120));
    }
}
