/** Promises 6, 9 and 10: the law as a text, and watches that go by it. */
public final class LawTest {
    public static void main(String[] args) {
        texts();
        faults();
        depths();
        numbersOfRules();
        refusedCalls();
        reckoning();
        letters();
        firstRule();
        refusedDivisions();
        watches();
        loses();
        draws();
        lastDay();
        tried();
        Due.end();
    }

    private static void text(String text, int want) {
        VerandaWar war = new VerandaWar();
        Due.law(war, "b1(s=s);b1(s=s)");
        Due.is("6: " + text, Due.law(war, text), want);
        Due.is("6: the tape is empty, " + text, war.count(4), 0);
        Due.is("6: rules then, " + text, war.count(3), want > 0 ? want : 2);
    }

    private static void texts() {
        text("x(1=1)", 1);
        text("b1(1<2)", 1);
        text("t1+2*3-[4/k]%5(!1=1&(2>1|s=c)|u<v)", 1);
        text("b99999(n=o);t00000(h=d);w10(a=l);x(k=k)", 4);
        text("x(!!1=1)", 1);
        text("x(!(1=1)&!1=1)", 1);
        text("x([1]=[[2]])", 1);
    }

    private static void faults() {
        text("y1(1=1)", -1000);
        text("x", -1001);
        text("x1=1", -1001);
        text("x(", -1002);
        text("x()", -1002);
        text("x(1)", -1003);
        text("x(1=)", -1004);
        text("x(1=1", -1005);
        text("x(1=1]", -1005);
        text("x(1=1=1)", -1005);
        text("x(1=1))", -1006);
        text("x(1=1)x(1=1)", -1006);
        text("x(1=1);", -1007);
        text("x(1=1);;", -1007);
        text("x(1=1)|(1=1)", -1006);
        text("b(1=1)", -1001);
        text("b1", -1002);
        text("b1+(1=1)", -1003);
        text("b1++1(1=1)", -1003);
        text("b-1(1=1)", -1001);
        text("b[1(1=1)", -1003);
        text("b[1)(1=1)", -1003);
        text("b[](1=1)", -1002);
        text("b1 (1=1)", -1002);
        text("b1(1=1 )", -1006);
        text("b1(t=1)", -1003);
        text("b1(x=1)", -1003);
        text("bb(1=1)", -1001);
        text("b1(1=1&)", -1007);
        text("b1(1=1||1=1)", -1007);
        text("b1(&1=1)", -1003);
        text("b1(!)", -1004);
        text("b1([1=1])", -1005);
        text("b1((1)=1)", -1005);
        text("b1(1=1)+1", -1007);
        text("b123456(1=1)", -2006);
        text("b1(1=123456)", -2010);
        text("b1(1=1234567", -2010);
        text("x(1=2|1=123456)", -2013);
        text("x(1=2&1=123456)", -2013);
        text("b1*123456(1=1)", -2008);
        text("b1+123456(1=1)", -2008);
        text("b12345a(1=1)", -1006);
        text("b1(1=1\u0100)".replace('\u0100', '\0'), -1006);
        text("b1(1=1\u00e9)", -1006);
        text("B1(1=1)", -1000);
        text("b1{1=1}", -1002);
    }

    private static void depths() {
        text("x((((((1=1))))))", 1);
        text("x(((((((1=1)))))))", -5007);
        text("x(!!!!!1=1)", 1);
        text("x(!!!!!!1=1)", -5007);
        text("x(!!!!![1]=1)", -5007);
        text("x(!!!![1]=[2])", 1);
        text("x([[[[[1]]]]]=1)", 1);
        text("x([[[[[[1]]]]]]=1)", -5007);
        text("x(1=[[[[[[1]]]]]])", -5009);
        text("b[[[[[[1]]]]]](1=1)", 1);
        text("b[[[[[[[1]]]]]]](1=1)", -5007);
        text("x(!!!!!1=1&!!!!!1=1)", 1);
        text("x(!(!(!1=1)))", 1);
        text("x(!(!(!(1=1))))", -5007);
        text("x(!(!(![1]=1)))", -5007);
        text("x(!!!!!1=1&!!!!!!1=1)", -5016);
        text("x((((((1=1(", -1010);
        text("x(((((((", -5007);
        text("x((((((]", -1007);
    }

    private static void numbersOfRules() {
        StringBuilder sixteen = new StringBuilder("x(1=1)");
        for (int i = 1; i < 16; i++) {
            sixteen.append(";x(1=1)");
        }
        text(sixteen.toString(), 16);
        text(sixteen + ";", -1112);
        text(sixteen + ";b", -4112);
        text(sixteen + ";q", -1112);
        text(sixteen + ";x(1=1)", -4112);
        StringBuilder full = new StringBuilder("b1");
        while (full.length() < 233) {
            full.append("+1");
        }
        full.append("(1=1)");
        text(full.toString(), 1);
        StringBuilder wide = new StringBuilder("x(1=1");
        while (wide.length() < 235) {
            wide.append("&1=1");
        }
        text(wide.append(")").toString(), 1);
    }

    private static void refusedCalls() {
        VerandaWar war = new VerandaWar();
        Due.feed(war, "x(1=1)");
        Due.is("6: n 0", war.law(0), -1);
        Due.is("6: n -1", war.law(-1), -1);
        Due.is("6: not so many", war.law(21), -1);
        Due.is("6: n 241", war.law(241), -1);
        Due.is("6: the tape stays", war.count(4), 20);
        Due.is("6: by the first bytes", war.law(6), 1);
        Due.is("6: all of it is empty then", war.count(4), 0);
    }

    /** What the E of b comes to for one gentleman: rank 7, lemonade 40, cushions 3, chair 5, of side 1. */
    private static void amount(String e, int want) {
        VerandaWar war = new VerandaWar();
        war.chair(1, 5, 7, 40, 3);
        Due.law(war, "b" + e + "(1=1)");
        Due.is("6: b of " + e, war.tried(1, 25), want);
    }

    private static void holds(String c, boolean want) {
        VerandaWar war = new VerandaWar();
        war.chair(1, 5, 7, 40, 3);
        Due.law(war, "b1(" + c + ")");
        Due.is("6: holds " + c, war.tried(1, 25), want ? 1 : 0);
        Due.law(war, "x(" + c + ")");
        Due.is("6: goes in by " + c, war.tried(1, 0), want ? 1 : 0);
    }

    private static void reckoning() {
        amount("10-3-2", 5);
        amount("2+3*4", 14);
        amount("100/7/2", 7);
        amount("17%10%4", 3);
        amount("7*9/10", 6);
        amount("9/10*7", 0);
        amount("[2+3]*4", 20);
        amount("[3-10]/2+50", 47);
        amount("[3-10]%4+50", 47);
        amount("3-10", 0);
        amount("100", 99);
        amount("99", 99);
        amount("65536*65535+32767*2+3", 1);
        amount("65536*65536+5", 5);
        amount("46341*46341/46341+46340", 0);
        amount("[46341*46341/46341+46340]*[0-1]", 0);
        amount("46341*46341+65536*32768*[0-1]", 99);
        amount("0*[5/0]+3", 0);
        amount("5/[k-7]", 0);
        amount("5%[k-7]", 0);
        holds("1=1", true);
        holds("1<1", false);
        holds("1>1", false);
        holds("2>1", true);
        holds("1<2", true);
        holds("!1=1", false);
        holds("!!1=1", true);
        holds("!1<2", false);
        holds("!2>1", false);
        holds("!2<1", true);
        holds("!1=2&1=1", true);
        holds("!(1=2&1=1)", true);
        holds("!1=1|1=1", true);
        holds("1=1|1=2&1=2", true);
        holds("(1=1|1=2)&1=2", false);
        holds("1=2&1=1|1=1", true);
        holds("1=2|1=2|1=1", true);
        holds("1=1&1=1&1=2", false);
        holds("1=2&1=1&1=1|1=2|!1=1", false);
        holds("32768*65536<0", true);
        holds("32768*65536/[0-1]<0", true);
        holds("32768*65536%[0-1]=0", true);
        holds("32768*65536-1>0", true);
    }

    private static void refusedDivisions() {
        holds("1/0=1", false);
        holds("!1/0=1", false);
        holds("!1%0=1", false);
        holds("1/0=1|1=1", false);
        holds("1=1|1/0=1", true);
        holds("1=2&1/0=1|1=1", true);
        holds("1=2|1/0=1|1=1", false);
        holds("!(1=2&1/0=0)", true);
        holds("!(1=1&1/0=0)", false);
        holds("1=1&1/0=0|1=1", false);
        VerandaWar war = new VerandaWar();
        war.chair(0, 0, 0, 40, 0);
        Due.law(war, "b5(1/k=0);b6(1=1)");
        Due.is("6: the next rule", war.tried(1, 10), 6);
        Due.law(war, "b5/k(1=1);b6(1=1)");
        Due.is("6: the E is 0, no next rule", war.tried(1, 10), 0);
        Due.law(war, "x(1/k=0);x(1=1)");
        Due.is("6: any x will do", war.tried(1, 0), 1);
        Due.law(war, "w10%k(1=1);w10(1=1)");
        Due.is("6: w refused", war.tried(1, 1), 0);
    }

    private static void letters() {
        VerandaWar war = new VerandaWar();
        war.chair(1, 5, 7, 40, 3);
        war.chair(1, 6, 0, 40, 0);
        war.chair(1, 7, 0, 40, 0);
        war.chair(0, 1, 0, 40, 0);
        war.chair(0, 2, 0, 40, 9);
        war.column(12, 58);
        Due.law(war, "w10(s=1&c=6&h=0)");
        for (int i = 0; i < 9; i++) {
            war.watches(1);
        }
        Due.orders(war, ">7I");
        int[] want = {1, 5, 7, 0, 40, 3, 2, 2, 1, 3, 1};
        String letters = "sckalunovhd";
        for (int i = 0; i < want.length; i++) {
            Due.law(war, "b" + letters.charAt(i) + "(s=1&c=5)");
            Due.is("6: the letter " + letters.charAt(i), war.tried(1, 25), want[i]);
        }
        Due.law(war, "b10(c=5&s=1);t7(c=5&s=1);x(a=10&l=33)");
        Due.is("9: x is asked behind b and t", war.whenIn(1, 5, 1), 1);
        Due.law(war, "b10(c=5&s=1&l=40&a=0);t7(c=5&s=1&a=0)");
        Due.is("9: b and t are asked ahead", war.tried(1, 25), 10);
        Due.is("9: b and t are asked ahead, t", war.tried(1, 2), 7);
        Due.law(war, "b10(c=5&s=1);t7(c=5&s=1);w10(a=10&l=33)");
        Due.is("9: w is asked behind b and t", war.tried(1, 1), 1);
        Due.law(war, "x(c=1&s=0);b10*o+n(s=1)");
        Due.is("9: asked as it is then", war.tried(1, 25), 12);
        Due.law(war, "x(c=2&s=0);b10*v+n(s=1)");
        Due.is("9: whom he sees then", war.tried(1, 25), 2);
        Due.law(war, "w10(s=0);b10*o+n(1=1)");
        Due.is("9: who was called does not sit", war.tried(1, 25), 2);
        Due.is("9: his own side, the first", war.tried(1, 11), 22);
        Due.is("9: his own side, the second", war.tried(1, 12), 21);
    }

    private static void firstRule() {
        VerandaWar war = new VerandaWar();
        war.chair(0, 0, 3, 40, 0);
        Due.law(war, "b1(k=2);t5(1=1);b2(k=3);b3(1=1);t6(1=1)");
        Due.is("6: the first b that holds", war.tried(1, 10), 2);
        Due.is("6: the first t that holds", war.tried(1, 2), 5);
        Due.law(war, "b1(k=2);t5(k=2)");
        Due.is("6: none holds", war.tried(1, 10), 0);
        Due.is("6: no t holds", war.tried(1, 2), 0);
        Due.law(war, "t1000(1=1)");
        Due.is("6: drunk is what there was", war.tried(1, 2), 40);
        Due.law(war, "w11(1=1)");
        Due.is("6: w 10 at most", war.tried(3, 1), 3);
        Due.law(war, "w0-1(1=1)");
        Due.is("6: w 0 at least", war.tried(120, 1), 0);
        Due.law(war, "t0-1(1=1)");
        Due.is("6: t 0 at least", war.tried(1, 2), 0);
        VerandaWar lawless = new VerandaWar();
        lawless.chair(0, 0, 3, 40, 0);
        Due.is("9: no law", lawless.watches(120), 0);
        Due.is("9: draws without a law", lawless.count(5) == 1, false);
        Due.is("9: days without a law", lawless.count(0), 20);
    }

    private static void watches() {
        VerandaWar war = new VerandaWar();
        Due.is("9: n 0", war.watches(0), -1);
        Due.is("9: n 121", war.watches(121), -1);
        Due.is("9: n -1", war.watches(-1), -1);
        Due.is("9: none went by", war.count(1), 0);
        Due.is("9: nobody there", war.watches(120), 0);
        Due.is("9: but they went by", war.count(0), 20);
        Due.is("9: nobody lost", war.count(2), 0);
        war.chair(0, 0, 0, 10, 0);
        war.chair(0, 1, 0, 99, 0);
        war.chair(1, 0, 0, 0, 0);
        war.chair(1, 1, 0, 99, 0);
        Due.law(war, "t5(c=0);b33(c=1&s=0);b1(1=1)");
        Due.is("9: lemonade 0 without any t", war.watches(1), 1);
        Due.is("9: is in", war.count(23), 1);
        Due.is("9: lemonade 0 now", war.watches(1), 1);
        Due.is("9: is in, side 0", war.count(13), 1);
        Due.is("9: boredom 66", war.chairIs(0, 1, 1), 66);
        Due.is("9: boredom 99", war.watches(1), 1);
        Due.is("9: is in, the other", war.count(13), 3);
        Due.is("9: side 0 lost", war.count(2), 1);
        Due.is("9: watch 3", war.count(1), 3);
        Due.is("9: no more", war.watches(120), 0);
        Due.is("9: still watch 3", war.count(1), 3);
        Due.is("9: boredom of who is in", war.chairIs(1, 0, 1), 1);
        VerandaWar last = new VerandaWar();
        last.chair(0, 0, 0, 3, 0);
        Due.law(last, "t2(h=0);b98(1=1)");
        Due.is("9: lemonade 1, boredom 98", last.watches(1), 0);
        Due.is("9: lemonade 1 is left", last.chairIs(0, 0, 2), 1);
        Due.is("9: boredom 99 at most", last.watches(1), 1);
        Due.is("9: 99", last.chairIs(0, 0, 1), 99);
    }

    private static void loses() {
        VerandaWar war = new VerandaWar();
        war.chair(0, 0, 0, 10, 0);
        war.chair(1, 0, 0, 10, 0);
        Due.orders(war, "<0I");
        war.watches(3);
        Due.is("9: who was in at first does not lose", war.count(2), 0);
        Due.orders(war, "<0O");
        Due.law(war, "w10(s=0);x(s=1)");
        Due.is("9: one in", war.watches(1), 1);
        Due.is("9: side 1", war.count(2), 2);
        Due.is("9: at dinner is not in", war.count(12), 1);
        VerandaWar both = new VerandaWar();
        both.chair(0, 0, 0, 10, 0);
        both.chair(1, 0, 0, 10, 0);
        Due.law(both, "x(h=2)");
        Due.is("9: two in", both.watches(50), 2);
        Due.is("9: both", both.count(2), 3);
        Due.is("9: behind three", both.count(1), 3);
    }

    private static void draws() {
        VerandaWar war = new VerandaWar();
        war.chair(0, 0, 0, 99, 0);
        war.chair(0, 1, 0, 99, 0);
        war.chair(1, 0, 0, 99, 0);
        Due.law(war, "w5(1=1);x(c=1&h=1)");
        int x = 1;
        for (int watch = 0; watch < 6; watch++) {
            war.watches(1);
            int there = watch == 0 ? 3 : 2;
            int dinner = 0;
            for (int i = 0; i < there; i++) {
                x = (25173 * x + 13849) % 65536;
                int bit = there == 3 ? 1 << i : i == 0 ? 1 : 4;
                dinner |= x % 10 < 5 ? bit : 0;
            }
            Due.is("9: X", war.count(5), x);
            Due.is("9: who is called, side 0", war.count(12), dinner & 3);
            Due.is("9: who is called, side 1", war.count(22), dinner >> 2);
        }
    }

    private static void lastDay() {
        VerandaWar war = new VerandaWar();
        for (int i = 0; i < 499; i++) {
            war.watches(120);
        }
        Due.is("9: day 9980", war.count(0), 9980);
        war.watches(113);
        Due.is("9: day 9998", war.count(0), 9998);
        Due.is("9: watch 5 of it", war.count(1), 5);
        war.watches(1);
        Due.is("9: day 9999", war.count(0), 9999);
        war.watches(120);
        Due.is("9: 9999 at most", war.count(0), 9999);
        Due.is("9: then none goes by", war.count(1), 0);
    }

    private static void tried() {
        VerandaWar war = new VerandaWar();
        war.chair(0, 0, 0, 20, 0);
        war.chair(0, 4, 0, 99, 0);
        war.chair(1, 7, 0, 60, 0);
        Due.law(war, "b2+s(1=1);t4(1=1);w3(1=1)");
        int x = war.count(5);
        int[] bad = {-1, 4, 9, 18, 19, 28, 30, 100};
        for (int what : bad) {
            Due.is("10: what " + what, war.tried(5, what), -1);
        }
        Due.is("10: n 0", war.tried(0, 0), -1);
        Due.is("10: n 121", war.tried(121, 0), -1);
        Due.is("10: empty chair", war.tried(5, 11), -1);
        Due.is("10: empty chair across", war.tried(5, 20), -1);
        int in = war.tried(7, 0);
        int dinners = war.tried(7, 1);
        int drunk = war.tried(7, 2);
        int lost = war.tried(120, 3);
        int bored = war.tried(7, 14);
        int across = war.tried(7, 27);
        Due.is("10: nothing is changed, X", war.count(5), x);
        Due.is("10: nothing is changed, watch", war.count(1), 0);
        Due.is("10: nothing is changed, lemonade", war.chairIs(0, 0, 2), 20);
        int went = 0;
        int called = 0;
        int before = 20 + 99 + 60;
        for (int i = 0; i < 7; i++) {
            went += war.watches(1);
            called += Integer.bitCount(war.count(12)) + Integer.bitCount(war.count(22));
        }
        Due.is("10: in", in, went);
        Due.is("10: dinners", dinners, called);
        Due.is("10: drunk", drunk, before - war.chairIs(0, 0, 2) - war.chairIs(0, 4, 2) - war.chairIs(1, 7, 2));
        Due.is("10: bored", bored, war.chairIs(0, 4, 1));
        Due.is("10: bored across", across, war.chairIs(1, 7, 1));
        war.watches(120);
        Due.is("10: lost", lost, war.count(2));
        Due.is("10: lost is 2", lost, 2);
        Due.is("10: when lost", war.tried(9, 3), 2);
        Due.is("10: none goes in when lost", war.tried(9, 0), 0);
    }
}
