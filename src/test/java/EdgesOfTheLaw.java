/** THE LAW and A WATCH, sentence by sentence. */
final class EdgesOfTheLaw {
    private EdgesOfTheLaw() {
    }

    static void all() {
        length();
        rules();
        forms();
        boundsOfRules();
        goingIn();
        firstRule();
        choices();
        sums();
        factors();
        letters();
        lettersOfTheSides();
        clocks();
        machine();
        refused();
        asked();
        faults();
        depths();
        lostAndDinner();
        turns();
        boredomAndLemonade();
        goesIn();
        called();
        loses();
        clock();
        draws();
    }

    /** One gentleman: side 1, chair 5, rank 7, lemonade 40, cushions 3. */
    private static VerandaWar one() {
        VerandaWar war = new VerandaWar();
        war.chair(1, 5, 7, 40, 3);
        return war;
    }

    /** What a text answers; with a fault the law before stays. */
    private static void text(String text, int want) {
        VerandaWar war = one();
        Due.law(war, "b3(1=1);t2(1=1)");
        String before = Picture.of(war);
        Due.is(text, Due.law(war, text), want);
        if (want < 0) {
            Due.is("the one before stays, " + text, Picture.of(war).equals(before), true);
        } else {
            Due.is("rules, " + text, war.count(3), want);
        }
    }

    private static void amount(String e, int want) {
        VerandaWar war = one();
        Due.is("b" + e, Due.law(war, "b" + e + "(1=1)"), 1);
        Due.is("boredom by " + e, war.tried(1, 25), want);
    }

    private static void holds(String c, boolean want) {
        VerandaWar war = one();
        Due.is("b1(" + c + ")", Due.law(war, "b1(" + c + ")"), 1);
        Due.is("holds, " + c, war.tried(1, 25), want ? 1 : 0);
        Due.law(war, "x(" + c + ")");
        Due.is("goes in, " + c, war.tried(1, 0), want ? 1 : 0);
    }

    private static String rules(int many, String rule) {
        StringBuilder text = new StringBuilder(rule);
        for (int i = 1; i < many; i++) {
            text.append(';').append(rule);
        }
        return text.toString();
    }

    private static void length() {
        Due.says("THE LAW: a TEXT of at most 240 bytes, no blanks (none at first):");
        StringBuilder full = new StringBuilder("b0*10");
        while (full.length() < 233) {
            full.append("+0");
        }
        full.append("+7(1=1)");
        Due.is("its length", full.length(), 240);
        VerandaWar war = one();
        Due.is("none at first", war.count(3), 0);
        Due.is("240", Due.law(war, full.toString()), 1);
        Due.is("all of it is reckoned", war.tried(1, 25), 7);
        Due.feed(war, full + "+");
        Due.is("241", war.law(241), -1);
        Due.is("the tape stays", war.count(4), 260);
        Due.is("240 of it", war.law(240), 1);
        StringBuilder wide = new StringBuilder("x(l=40&1=1");
        while (wide.length() < 234) {
            wide.append("|a=9");
        }
        wide.append("|u=3)");
        Due.is("its length, too", wide.length(), 239);
        Due.is("239", Due.law(war, wide.toString()), 1);
        String text = "b[1+k]*2(!s=0&(c<6|h>1));x(a=l)";
        for (int i = 0; i <= text.length(); i++) {
            text(text.substring(0, i) + " " + text.substring(i), -1000 - i);
        }
        text("b1(1=1)\n", -1007);
        VerandaWar lawless = Wars.two();
        Due.is("without a law nobody goes in", lawless.watches(120), 0);
        Due.is("nobody is bored", lawless.chairIs(0, 0, 1), 0);
        Due.is("nobody drinks", lawless.chairIs(1, 0, 2), 60);
        Due.is("nobody is called", lawless.count(12) + lawless.count(22), 0);
    }

    private static void rules() {
        Due.says("RULES (16 at most) with a ; (59) between two:");
        for (int many = 1; many <= 16; many++) {
            text(rules(many, "b1(1=1)"), many);
        }
        text(rules(17, "b1(1=1)"), -4128);
        VerandaWar war = one();
        Due.law(war, rules(15, "b1(1=2)") + ";b9(1=1)");
        Due.is("the sixteenth counts", war.tried(1, 25), 9);
        text("b1(1=1):b1(1=1)", -1007);
        text("b1(1=1),b1(1=1)", -1007);
        text("b1(1=1)b1(1=1)", -1007);
        text(";b1(1=1)", -1000);
        text("b1(1=1);;b1(1=1)", -1008);
        text("b1(1=1);", -1008);
    }

    private static void forms() {
        Due.says("a letter, E, and (C), of x only (C):");
        for (int sign = 0; sign < 256; sign++) {
            boolean amount = sign == 'b' || sign == 't' || sign == 'w';
            text((char) sign + "1(1=1)", amount ? 1 : sign == 'x' ? -1001 : -1000);
            text((char) sign + "(1=1)", sign == 'x' ? 1 : amount ? -1001 : -1000);
        }
        text("b1", -1002);
        text("b(", -1001);
        text("b1()", -1003);
        text("b1[1=1]", -1002);
        text("x", -1001);
        text("x()", -1002);
        text("x[1=1]", -1001);
        text("x(1=1", -1005);
    }

    private static void boundsOfRules() {
        Due.says("b by how much BOREDOM grows in a WATCH (0 to 99),");
        amount("0", 0);
        amount("1", 1);
        amount("98", 98);
        amount("99", 99);
        amount("100", 99);
        amount("99999", 99);
        amount("0-1", 0);
        amount("0-99999", 0);
        VerandaWar bored = one();
        Due.law(bored, "b10(h=0);b0-5(1=1)");
        Due.is("it never falls", bored.tried(2, 25), 10);
        Due.says("t by how much LEMONADE is less (0 to 99),");
        VerandaWar war = one();
        int[] drunk = {0, 0, 1, 39, 40, 40};
        String[] by = {"0-7", "0", "1", "39", "40", "99999"};
        for (int i = 0; i < by.length; i++) {
            Due.law(war, "t" + by[i] + "(1=1)");
            Due.is("drunk by " + by[i], war.tried(1, 2), drunk[i]);
        }
        // With more than 99 to drink from, it tells that a watch never takes more than 99.
        war.chair(1, 5, 7, 99, 3);
        Due.law(war, "t150(1=1)");
        Due.is("99 at most", war.lasts(1, 5, 1), 1);
        Due.law(war, "t0-150(1=1)");
        Due.is("0 at least", war.lasts(1, 5, 60), 0);
        Due.says("w tenths that one is called to DINNER (0 to 10),");
        int[] called = {0, 0, 120, 120, 120};
        String[] tenths = {"0-1", "0", "10", "11", "99999"};
        for (int i = 0; i < tenths.length; i++) {
            Due.law(war, "w" + tenths[i] + "(1=1)");
            Due.is("calls by " + tenths[i], war.tried(120, 1), called[i]);
        }
        for (int w = 1; w < 10; w++) {
            Due.law(war, "w" + w + "(1=1)");
            Due.is("calls by " + w, war.tried(120, 1), drawsBelow(w, 120));
        }
    }

    /** How many of the first draws of a new object are below a number. */
    private static int drawsBelow(int w, int many) {
        long x = 1;
        int below = 0;
        for (int i = 0; i < many; i++) {
            x = (25173 * x + 13849) % 65536;
            below += x % 10 < w ? 1 : 0;
        }
        return below;
    }

    private static void goingIn() {
        Due.says("x one goes IN (any will do; without an x in THE LAW none does by it):");
        VerandaWar war = one();
        Due.law(war, "x(1=1)");
        Due.is("by one", war.tried(1, 0), 1);
        Due.law(war, "x(1=2);x(1=1)");
        Due.is("by the second", war.tried(1, 0), 1);
        Due.law(war, "x(1=1);x(1=2)");
        Due.is("by the first", war.tried(1, 0), 1);
        Due.law(war, rules(15, "x(1=2)") + ";x(1=1)");
        Due.is("by the sixteenth", war.tried(1, 0), 1);
        Due.law(war, "x(1=2);x(k=8)");
        Due.is("by none", war.tried(120, 0), 0);
        Due.law(war, "b0(1=1);t0(1=1);w0(1=1)");
        Due.is("without an x", war.tried(120, 0), 0);
    }

    private static void firstRule() {
        Due.says("of the first RULE of b, t, w whose C holds the E (beyond its bounds the bound; none: 0).");
        VerandaWar war = one();
        Due.law(war, "b1(k=6);b2(k=7);b3(k=7);t4(k=6);t5(k=7);t6(k=7)");
        Due.is("b", war.tried(1, 25), 2);
        Due.is("t", war.tried(1, 2), 5);
        Due.law(war, "w0(k=7);w10(k=7)");
        Due.is("w", war.tried(120, 1), 0);
        Due.law(war, "w0(k=6);w10(k=7)");
        Due.is("the second w", war.tried(120, 1), 120);
        Due.law(war, "b0-9(k=7);b5(k=7)");
        Due.is("below its bounds", war.tried(1, 25), 0);
        Due.law(war, "b777(k=7);b5(k=7)");
        Due.is("beyond its bounds", war.tried(1, 25), 99);
        Due.law(war, "b5(k=6);t5(k=6);w10(k=6)");
        Due.is("no b", war.tried(1, 25), 0);
        Due.is("no t", war.tried(1, 2), 0);
        Due.is("no w", war.tried(1, 1), 0);
    }

    private static void choices() {
        Due.says("C: PARTS with a | between two, one of which must hold;");
        holds("1=2", false);
        holds("1=2|1=2", false);
        holds("1=2|1=1", true);
        holds("1=1|1=2", true);
        holds("1=1|1=1", true);
        holds("1=2|1=2|1=1", true);
        holds("1=2|1=1|1=2", true);
        holds("1=2|1=2|1=2", false);
        Due.says("a PART: TESTS with an & between two, all of which must;");
        holds("1=1&1=1", true);
        holds("1=1&1=2", false);
        holds("1=2&1=1", false);
        holds("1=1&1=1&1=2", false);
        holds("1=1&1=1&1=1", true);
        holds("1=1|1=1&1=2", true);
        holds("1=2&1=1|1=1", true);
        holds("1=1&1=2|1=2&1=1", false);
        Due.says("a TEST: !TEST, (C), or E, one of < > =, and E.");
        holds("!1=1", false);
        holds("!1=2", true);
        holds("!!1=1", true);
        holds("!!!1=1", false);
        holds("!1=2&1=2", false);
        holds("!(1=2&1=2)", true);
        holds("!1=1|1=1", true);
        holds("!(1=1|1=1)", false);
        holds("(1=1|1=1)&1=2", false);
        holds("((1=1))", true);
        int[][] twos = {{3, 4}, {4, 4}, {5, 4}};
        for (int[] two : twos) {
            holds(two[0] + "<" + two[1], two[0] < two[1]);
            holds(two[0] + ">" + two[1], two[0] > two[1]);
            holds(two[0] + "=" + two[1], two[0] == two[1]);
            holds("!" + two[0] + "<" + two[1], two[0] >= two[1]);
            holds("!" + two[0] + ">" + two[1], two[0] <= two[1]);
            holds("!" + two[0] + "=" + two[1], two[0] != two[1]);
        }
        holds("0-1<0", true);
        holds("0-1>0", false);
        text("x(1)", -1003);
        text("x(1<)", -1004);
        text("x(<1)", -1002);
        text("x(1==1)", -1004);
        text("x(1<=1)", -1004);
        text("x(1=1=1)", -1005);
        text("x(1!1)", -1003);
        text("x((1=1)=1)", -1007);
    }

    private static void sums() {
        Due.says("E: TERMS with + or - between two;");
        amount("1+2", 3);
        amount("9-4", 5);
        amount("9-4-3", 2);
        amount("9-4+3", 8);
        amount("4-9+6", 1);
        amount("2+3*4", 14);
        amount("20-3*4", 8);
        text("b+1(1=1)", -1001);
        text("b-1(1=1)", -1001);
        text("b1+(1=1)", -1003);
        text("b1--1(1=1)", -1003);
        Due.says("a TERM: FACTORS with one of * / % between two; from the left on;");
        amount("3*4", 12);
        amount("13/4", 3);
        amount("13%4", 1);
        amount("7*9/10", 6);
        amount("9/10*7", 0);
        amount("100/7/2", 7);
        amount("100/[7/2]", 33);
        amount("29%10%4", 1);
        amount("5*7%4", 3);
        amount("7%4*5", 15);
        text("b*1(1=1)", -1001);
        text("b1*(1=1)", -1003);
        text("b1//1(1=1)", -1003);
    }

    private static void factors() {
        Due.says("a FACTOR: [E], a number of one to five digits, or a letter:");
        amount("[7]", 7);
        amount("[2+3]*4", 20);
        amount("2*[3+4]", 14);
        amount("[[[3]]]", 3);
        amount("0", 0);
        amount("00007", 7);
        amount("00000", 0);
        amount("99999-99990", 9);
        amount("10000-9999", 1);
        amount("k", 7);
        text("b[](1=1)", -1002);
        text("b[1(1=1)", -1003);
        text("b1](1=1)", -1002);
        text("b(1)(1=1)", -1001);
        text("b7k(1=1)", -1002);
        text("bk7(1=1)", -1002);
        text("bkk(1=1)", -1002);
        text("b100000(1=1)", -2006);
        String letters = "sckalunovhd";
        for (int sign = 0; sign < 256; sign++) {
            boolean stands = letters.indexOf(sign) >= 0 || sign >= '0' && sign <= '9';
            if (sign != '[') {
                text("b" + (char) sign + "(1=1)", stands ? 1 : -1001);
            }
            if (sign != '[' && sign != '(' && sign != '!') {
                text("x(" + (char) sign + "=1)", stands ? 1 : -1002);
            }
        }
    }

    private static void letters() {
        Due.says("s the side, c the CHAIR, k RANK, a BOREDOM, l LEMONADE, u CUSHIONS,");
        VerandaWar war = one();
        war.chair(0, 0, 9, 99, 0);
        war.chair(0, 7, 0, 1, 9);
        Due.law(war, "b4(h=0)");
        war.watches(1);
        String letters = "sckalu";
        int[][] want = {{0, 0, 9, 4, 99, 0}, {0, 7, 0, 4, 1, 9}, {1, 5, 7, 4, 40, 3}};
        int[] what = {10, 17, 25};
        for (int i = 0; i < letters.length(); i++) {
            Due.law(war, "b" + letters.charAt(i) + "+20(1=1)");
            for (int who = 0; who < 3; who++) {
                int then = Math.min(99, 24 + want[who][i]);
                Due.is(letters.charAt(i) + " of " + what[who], war.tried(1, what[who]), then);
            }
        }
    }

    private static void lettersOfTheSides() {
        Due.says("n how many SIT on his side, o on the other one,");
        VerandaWar war = new VerandaWar();
        for (int c = 0; c < 8; c++) {
            war.chair(0, c, 0, 50, 0);
        }
        war.chair(1, 6, 0, 50, 0);
        Due.law(war, "b10*n+o(1=1)");
        Due.is("eight and one", war.tried(1, 10), 81);
        Due.is("one and eight", war.tried(1, 26), 18);
        Due.orders(war, ">6I");
        Due.is("nobody across", war.tried(1, 10), 80);
        Due.orders(war, ">6O;<1I;<2I");
        Due.is("who is in does not sit", war.tried(1, 10), 61);
        Due.law(war, "w10(s=0);b10*n+o(1=1)");
        Due.is("who has been called does not sit", war.tried(1, 14), 41);
        Due.is("nobody sits across any more", war.tried(1, 26), 10);
        Due.says("v how many that SIT he sees across,");
        VerandaWar seen = new VerandaWar();
        seen.chair(0, 0, 0, 50, 0);
        for (int c = 0; c < 8; c++) {
            seen.chair(1, c, 0, 50, c);
        }
        Due.law(seen, "b10+v(1=1)");
        Due.is("all", seen.tried(1, 10), 18);
        Due.is("the one", seen.tried(1, 20), 11);
        seen.column(23, 60);
        Due.is("those on three cushions and more", seen.tried(1, 10), 15);
        Due.is("not on none", seen.tried(1, 20), 10);
        Due.is("on three", seen.tried(1, 23), 11);
        Due.orders(seen, ">3I;>7I");
        Due.is("those of them that sit", seen.tried(1, 10), 13);
        Due.orders(seen, ">4I;>5I;>6I");
        Due.is("nobody", seen.tried(1, 10), 10);
    }

    private static void clocks() {
        Due.says("h the WATCH, d the DAY modulo 100.");
        VerandaWar war = one();
        Due.law(war, "b10+h(1=1)");
        Due.is("watch 0", war.tried(1, 25), 10);
        Due.law(war, "b10*h(h=5)");
        Due.is("none is watch 6", war.tried(5, 25), 0);
        Due.is("the sixth one is 5", war.tried(6, 25), 50);
        Due.is("then comes 0", war.tried(11, 25), 50);
        Due.law(war, "b0(1=1)");
        for (int i = 0; i < 4; i++) {
            war.watches(120);
        }
        war.watches(119);
        Due.is("day 99", war.count(0), 99);
        Due.law(war, "bd-40(h=5);b1+d(1=1)");
        Due.is("d is 99", war.tried(1, 25), 59);
        Due.is("then 0", war.tried(2, 25), 60);
        war.watches(1);
        Due.is("day 100", war.count(0), 100);
        Due.law(war, "b7+d(1=1)");
        Due.is("d is 0", war.tried(1, 25), 66);
        Due.law(war, "b7*d(1=1)");
        Due.is("d is 0 all day", war.tried(6, 25), 59);
        Due.is("d is 1 on day 101", war.tried(7, 25), 66);
    }

    private static void machine() {
        Due.says("All is reckoned with 32 bits, as the machine does;");
        amount("65536*65536+5", 5);
        amount("65536*32768/65536+32768+6", 6);
        amount("65535*65537+8", 7);
        holds("65536*32767+65535>0", true);
        holds("65536*32767+65535+1<0", true);
        holds("65536*32768<0", true);
        holds("65536*32768-1>0", true);
        holds("65536*32768=[0-65536]*32768", true);
        holds("65536*32768/[0-1]=65536*32768", true);
        holds("65536*32768%[0-1]=0", true);
        holds("46341*46341<0", true);
        holds("46340*46340>0", true);
        holds("[0-7]/2=0-3", true);
        holds("[0-7]%2=0-1", true);
        holds("7/[0-2]=0-3", true);
        holds("7%[0-2]=1", true);
    }

    private static void refused() {
        Due.says("what is divided by 0 is REFUSED: then the whole C of the RULE does not hold, the E of it is 0.");
        String[] divided = {"5/0", "5%0", "0/0", "5/[k-7]", "5%[7-k]", "1+5/0", "0*[5/0]", "[5/0]*0", "3-5%0", "5/0/1"};
        for (String e : divided) {
            amount(e, 0);
            holds(e + "=" + e, false);
            holds("!" + e + "=1", false);
            holds("!(1=1&" + e + "=0)", false);
            holds(e + "=0|1=1", false);
            holds("1=2|" + e + "=0|1=1", false);
            holds("1=1&" + e + "=0|1=1", false);
            holds("1=" + e + "|1=1", false);
        }
        VerandaWar war = one();
        Due.law(war, "b5/0(1=1);b6(1=1)");
        Due.is("the E is 0, it is no other rule's", war.tried(1, 25), 0);
        Due.law(war, "b5(1/0=0);b6(1=1)");
        Due.is("the next rule", war.tried(1, 25), 6);
        Due.law(war, "t5/0(1=1);t6(1=1)");
        Due.is("t is 0", war.tried(1, 2), 0);
        Due.law(war, "t5(1/0=0);t6(1=1)");
        Due.is("the next t", war.tried(1, 2), 6);
        Due.law(war, "w9/0(1=1);w10(1=1)");
        Due.is("w is 0", war.tried(120, 1), 0);
        Due.law(war, "w0(1/0=0);w10(1=1)");
        Due.is("the next w", war.tried(120, 1), 120);
        Due.law(war, "x(1/0=0)");
        Due.is("no x", war.tried(120, 0), 0);
        Due.law(war, "x(1/0=0);x(1=1)");
        Due.is("the next x", war.tried(1, 0), 1);
        amount("0/5", 0);
        amount("5/1", 5);
    }

    private static void asked() {
        Due.says("Of a C as much is asked, from the left, as matters.");
        holds("1=1|1/0=0", true);
        holds("1=1|1=2&1/0=0", true);
        holds("1=2&1/0=0|1=1", true);
        holds("!(1=2&1/0=0)", true);
        holds("!(1=1|1/0=0)", false);
        holds("(1=1|1/0=0)&1=1", true);
        holds("(1=2&1/0=0)|1=1", true);
        holds("1=2&1=1&1/0=0|1=1", true);
        holds("1=2|1=1|1/0=0", true);
        holds("1=2&(1/0=0|1=1)|1=1", true);
        holds("1/0=0|1=1", false);
        holds("1=1&1/0=0|1=1", false);
        holds("1/0=0&1=2|1=1", false);
    }

    private static void faults() {
        Due.says("FAULTS, the first from the left: 1 what can't stand there (the end, too);");
        String[] begun = {"b", "x", "b1", "b1+", "b1*", "b[", "b[1", "b[1]", "x(", "x(1", "x(1=", "x(1=1", "x(1=1&",
            "x(1=1|", "x(!", "x((", "x((1=1", "x((1=1)", "x(1=[", "x(1=[1", "x(1=1);", "b99999", "b1(1=1);t"};
        for (String text : begun) {
            text(text, -1000 - text.length());
            text(text + "?", -1000 - text.length());
            text(text + "?((((((((123456", -1000 - text.length());
        }
        text("y123456(1=1)", -1000);
        text("b123456(1=)", -2006);
        text("x(1=)123456", -1004);
        text("b1(1=1))", -1007);
        text("b1(1=1)?", -1007);
        text("B1(1=1)", -1000);
        Due.says("2 a sixth digit, at it;");
        text("b123456(1=1)", -2006);
        text("b000000(1=1)", -2006);
        text("b1234567(1=1)", -2006);
        text("b1+123456(1=1)", -2008);
        text("b[123456](1=1)", -2007);
        text("x(123456=1)", -2007);
        text("x(1=123456", -2009);
        text("x(1=2|1=123456)", -2013);
        text("x(1=2&1=123456)", -2013);
        text("x(!1=123456)", -2010);
        text("x((1=123456))", -2010);
        text("b12345(12345=12345)", 1);
        Due.says("4 a 17th RULE, at its letter (if that can stand there);");
        String sixteen = rules(16, "x(1=1)");
        for (int sign = 0; sign < 256; sign++) {
            boolean letter = sign == 'b' || sign == 't' || sign == 'w' || sign == 'x';
            text(sixteen + ";" + (char) sign, letter ? -4112 : -1112);
        }
        text(sixteen, 16);
        text(sixteen + ";", -1112);
        text(sixteen + ";x(1=1)", -4112);
        text(sixteen + "x", -1111);
        text(rules(15, "x(1=1)") + ";x(?);b", -1107);
    }

    private static void depths() {
        Due.says("5 a seventh of ( [ ! that are open in one another, at it (the ( of the RULE counts; a ! is open till its "
            + "TEST ends; the E of a RULE stands ahead of it).");
        String[] opens = {"(", "!", "["};
        String[] closes = {")", "", "]"};
        for (int i = 0; i < 3; i++) {
            String six = "x(" + opens[i].repeat(5);
            text(six + (i == 2 ? "1" : "1=1") + closes[i].repeat(5) + (i == 2 ? "=1)" : ")"), 1);
            text(six + opens[i], -5007);
            text(six + opens[i] + "?", -5007);
            text(six + "?", -1007);
        }
        text("x(!(!([1]=1)))", 1);
        text("x(!(!(![1]=1)))", -5007);
        text("x(!(!(!(1=1))))", -5007);
        text("x(!!!!!(1=1))", -5007);
        text("x(!!!!![1]=1)", -5007);
        text("x(!!!!!1=[1])", -5009);
        text("x([[[[[1]]]]]=[[[[[1]]]]])", 1);
        text("x([[[[[1]]]]]=[[[[[[", -5019);
        text("x(!!!!!1=1&!!!!!1=1|!!!!!1=1)", 1);
        text("x(!!!!!1=1&!!!!!!", -5016);
        text("x(!!!!(1=1)&!!!!(1=1))", 1);
        text("x((((((1=1)))))&(((((1=1))))))", 1);
        text("b[[[[[[1]]]]]](1=1)", 1);
        text("b[[[[[[[", -5007);
        text("b[[[[[[1]]]]]]+[[[[[[1]]]]]](((((([1]", -5034);
        text("b[[[[[[1]]]]]]((((((1=1))))))", 1);
        text("x((((((1=1))))));x((((((1=1))))))", 1 + 1);
        text("x(1=2|((((((", -5011);
        text("x(1=2&((((((", -5011);
        text("x(1=2|1=1&!!!!!!", -5015);
        // What can't stand there is no seventh one.
        text("x((((((1=1(", -1010);
        text("x((((((1=1!", -1010);
        text("x((((((1[", -1008);
    }

    private static void lostAndDinner() {
        Due.says("A WATCH (while no side has LOST):");
        VerandaWar war = Wars.two();
        Due.law(war, "b5(1=1);t1(1=1);x(s=0&h=2)");
        Due.is("one goes in", war.watches(10), 1);
        Due.is("the third was the last", war.count(1), 3);
        Due.is("boredom", war.chairIs(1, 0, 1), 15);
        String before = Picture.of(war);
        Due.is("none goes by", war.watches(120), 0);
        Due.is("nothing changed", Picture.of(war).equals(before), true);
        Due.orders(war, "<0O");
        Due.is("none goes by, though he is out", war.watches(1), 0);
        Due.is("still the third", war.count(1), 3);
        war.chair(0, 0, 1, 50, 0);
        war.watches(1);
        Due.is("now one goes by", war.count(1), 4);
        Due.says("(1) who is at DINNER SITS again.");
        war = Wars.two();
        Due.law(war, "w10(h=0);b10*n+o(1=1)");
        war.watches(1);
        Due.is("both are at dinner", war.count(12) + war.count(22), 2);
        war.watches(1);
        Due.is("both sit", war.count(11) + war.count(21), 2);
        Due.is("he was alone, and one across", war.chairIs(0, 0, 1), 11 + 11);
        Due.is("all sat again before anybody was asked", war.chairIs(1, 0, 1), 10 + 11);
        war = Wars.two();
        Due.law(war, "w10(1=1)");
        war.watches(1);
        Due.law(war, "b10+v(1=1)");
        Due.is("and sees and is seen again", war.tried(1, 10), 11);
        Due.is("and sees and is seen again across", war.tried(1, 20), 11);
    }

    private static void turns() {
        Due.says("(2) Each GENTLEMAN that SITS, side 0 ahead of side 1, by CHAIRS, all asked as it is then:");
        VerandaWar war = new VerandaWar();
        for (int c = 0; c < 8; c++) {
            war.chair(0, c, 0, 50, 0);
            war.chair(1, c, 0, 50, 0);
        }
        Due.law(war, "x(1=1);b10*n+o(1=1)");
        for (int c = 0; c < 8; c++) {
            Due.is("side 0, chair " + c, war.tried(1, 10 + c), 10 * (8 - c) + 8);
            Due.is("side 1, chair " + c, war.tried(1, 20 + c), 10 * (8 - c));
        }
        Due.orders(war, "<0I;<3I;>7I");
        Due.law(war, "b5(1=1);t7(1=1)");
        war.watches(1);
        for (int c = 0; c < 8; c++) {
            boolean in = c == 0 || c == 3;
            Due.is("boredom of chair " + c, war.chairIs(0, c, 1), in ? 0 : 5);
            Due.is("lemonade of chair " + c, war.chairIs(0, c, 2), in ? 50 : 43);
        }
        Due.is("who is in is not asked", war.chairIs(1, 7, 1), 0);
        Due.is("thirteen drew", war.count(5), drawn(13));
    }

    /** X of a new object behind so many draws. */
    private static long drawn(int many) {
        long x = 1;
        for (int i = 0; i < many; i++) {
            x = (25173 * x + 13849) % 65536;
        }
        return x;
    }

    private static void boredomAndLemonade() {
        Due.says("BOREDOM is more by b (99 at most), LEMONADE less by t (0 at least; b, t asked ahead);");
        VerandaWar war = Wars.two();
        Due.law(war, "b70(1=1);t45(1=1)");
        war.watches(1);
        Due.is("70", war.chairIs(0, 0, 1), 70);
        Due.is("5 left", war.chairIs(0, 0, 2), 5);
        war.watches(1);
        Due.is("99, not 140", war.chairIs(0, 0, 1), 99);
        Due.is("0, not -40", war.chairIs(0, 0, 2), 0);
        war = Wars.two();
        Due.law(war, "b3(l=50);t4(a=0)");
        war.watches(1);
        Due.is("b was asked ahead of the drink", war.chairIs(0, 0, 1), 3);
        Due.is("t was asked ahead of the boredom", war.chairIs(0, 0, 2), 46);
        war = Wars.two();
        Due.law(war, "b3(l<50);t4(a>0)");
        war.watches(1);
        Due.is("b was asked ahead", war.chairIs(0, 0, 1), 0);
        Due.is("t was asked ahead", war.chairIs(0, 0, 2), 50);
    }

    private static void goesIn() {
        Due.says("at BOREDOM 99 or LEMONADE 0, or by x (asked then), he goes IN;");
        VerandaWar war = Wars.two();
        Due.law(war, "b98(1=1)");
        Due.is("98 does not do", war.watches(1), 0);
        Due.is("99 does", war.watches(1), 2);
        war = Wars.two();
        Due.law(war, "t49(1=1)");
        Due.is("1 is left", war.watches(1), 0);
        Due.law(war, "t1(s=0)");
        Due.is("0 is left", war.watches(1), 1);
        Due.is("who", war.count(13), 1);
        war = new VerandaWar();
        war.chair(0, 0, 0, 0, 0);
        war.chair(0, 1, 0, 1, 0);
        Due.is("0 at first, without a law", war.watches(1), 1);
        Due.is("1 at first", war.chairIs(0, 1, 4), 0);
        war = Wars.two();
        Due.law(war, "b3(1=1);t4(1=1);x(a=3&l=46)");
        Due.is("x is asked with boredom and lemonade as they are then", war.watches(1), 1);
        Due.is("who by x", war.count(13), 1);
        war = Wars.two();
        Due.law(war, "b3(1=1);t4(1=1);x(a=0|l=50)");
        Due.is("not as they were", war.watches(1), 0);
        war = Wars.two();
        Due.law(war, "b99(1=1);w10(1=1)");
        Due.is("he goes in, not to dinner", war.watches(1), 2);
        Due.is("nobody drew", war.count(5), 1);
    }

    private static void called() {
        Due.says("else with a DRAW below w (asked then) he is at DINNER.");
        for (int w = 0; w < 11; w++) {
            for (int x = 0; x < 40; x++) {
                VerandaWar war = one();
                war.seed(x);
                Due.law(war, "w" + w + "(1=1)");
                war.watches(1);
                int draw = (25173 * x + 13849) % 65536 % 10;
                Due.is("draw " + draw + ", w " + w, war.chairIs(1, 5, 4), draw < w ? 1 : 0);
            }
        }
        VerandaWar war = Wars.two();
        Due.law(war, "b3(1=1);t4(1=1);w10(a=3&l=46)");
        war.watches(1);
        Due.is("asked then", war.count(12), 1);
        Due.is("not the other one", war.count(22), 0);
        war = Wars.two();
        war.watches(1);
        Due.is("a draw without any w", war.count(5), drawn(2));
    }

    private static void loses() {
        Due.says("(3) A side that had a GENTLEMAN not IN when the WATCH began, and has none, LOSES (both may).");
        String[] laws = {"x(s=0)", "x(s=1)", "x(1=1)", "x(1=2)", "x(s=0);w10(1=1)"};
        int[] lost = {1, 2, 3, 0, 1};
        for (int i = 0; i < laws.length; i++) {
            VerandaWar war = Wars.two();
            Due.law(war, laws[i]);
            war.watches(1);
            Due.is("by " + laws[i], war.count(2), lost[i]);
            Due.is("one watch by " + laws[i], war.count(1), 1);
        }
        VerandaWar war = Wars.two();
        war.chair(0, 5, 0, 50, 0);
        Due.law(war, "x(c=0)");
        war.watches(1);
        Due.is("one is left of side 0", war.count(2), 2);
        war = Wars.two();
        Due.orders(war, "<0I");
        war.watches(3);
        Due.is("all were in when it began", war.count(2), 0);
        Due.law(war, "x(1=1)");
        war.watches(1);
        Due.is("only the other side loses", war.count(2), 2);
        war = new VerandaWar();
        war.watches(3);
        Due.is("nobody there, nobody loses", war.count(2), 0);
        war.chair(1, 7, 0, 0, 0);
        war.watches(1);
        Due.is("side 0 is empty", war.count(2), 2);
        war = Wars.two();
        Due.law(war, "w10(h=0);x(s=0&h=1)");
        war.watches(1);
        Due.is("all at dinner, nobody has lost", war.count(2), 0);
        war.watches(1);
        Due.is("who was at dinner when it began was not in", war.count(2), 1);
    }

    private static void clock() {
        Due.says("The WATCH is one more (behind 5: 0, the DAY one more; 9999 at most: then none goes by).");
        VerandaWar war = Wars.two();
        for (int i = 1; i < 14; i++) {
            war.watches(1);
            Due.is("watch", war.count(1), i % 6);
            Due.is("day", war.count(0), i / 6);
        }
        war.watches(120);
        Due.is("120 on, the watch", war.count(1), 1);
        Due.is("120 on, the day", war.count(0), 22);
        lastDay(Wars.two());
    }

    /** 512 calls at most: later ones may answer anything. */
    private static void lastDay(VerandaWar last) {
        for (int i = 0; i < 499; i++) {
            last.watches(120);
        }
        last.watches(113);
        Due.is("day 9998", last.count(0), 9998);
        Due.is("its last watch", last.count(1), 5);
        Due.law(last, "b1(1=1)");
        last.watches(120);
        Due.is("one went by", last.chairIs(0, 0, 1), 1);
        Due.is("day 9999", last.count(0), 9999);
        Due.is("its first watch", last.count(1), 0);
        Due.is("then none goes by", last.tried(120, 10), 1);
    }

    private static void draws() {
        Due.says("DRAWS: X = (25173 X + 13849) modulo 65536 (X is THE SEED at first, 1): X modulo 10.");
        VerandaWar war = one();
        Due.is("the seed", war.count(5), 1);
        long x = 1;
        for (int i = 0; i < 50; i++) {
            war.watches(1);
            x = (25173 * x + 13849) % 65536;
            Due.is("X", war.count(5), x);
        }
        for (int seed : new int[] {0, 1, 2, 32767, 32768, 65534, 65535}) {
            war.seed(seed);
            war.watches(1);
            Due.is("X behind " + seed, war.count(5), (25173L * seed + 13849) % 65536);
        }
        // 25173 * 1 + 13849 = 39022: its draw is 2.
        war = one();
        Due.law(war, "w2(1=1)");
        Due.is("2 is not below 2", war.tried(1, 1), 0);
        Due.law(war, "w3(1=1)");
        Due.is("2 is below 3", war.tried(1, 1), 1);
    }
}
