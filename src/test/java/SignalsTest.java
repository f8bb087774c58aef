/** Promises 8 and 24 to 27: lamps as texts with rounds, and what is asked of them. */
public final class SignalsTest {
    public static void main(String[] args) {
        texts();
        tooMany();
        refusedCalls();
        answered();
        inCommon();
        beat();
        lamps();
        Due.end();
    }

    private static void text(String text, int want) {
        for (int side = 0; side < 2; side++) {
            VerandaWar war = new VerandaWar();
            Due.signals(war, side, "abcde");
            Due.is("8: " + text, Due.signals(war, side, text), want);
            Due.is("8: the tape is empty, " + text, war.count(4), 0);
            Due.is("8: lamps then, " + text, war.count(side == 0 ? 15 : 25), want > 0 ? want : 5);
            Due.is("8: the other side, " + text, war.count(side == 0 ? 25 : 15), 0);
        }
    }

    private static void texts() {
        text("a", 1);
        text(".", 1);
        text("abcde.", 6);
        text("f", -1000);
        text("A", -1000);
        text("a ", -1001);
        text("0a", -1000);
        text("1a", -1000);
        text("2a", 2);
        text("9.", 9);
        text("2", -1001);
        text("22a", -1001);
        text("a2", -1002);
        text("(a)", 1);
        text("3(a)", 3);
        text("3(ab)c", 7);
        text("3(a2(bc)d)", 18);
        text("()", -1001);
        text("a()", -1002);
        text("2()", -1002);
        text("(", -1001);
        text("(a", -1002);
        text("(2", -1002);
        text("(2)", -1002);
        text("((a)", -1004);
        text("a)", -1001);
        text(")", -1000);
        text("(a))", -1003);
        text("((a))", 1);
        text("((a)(b))", 2);
        text("(((a)))", -5002);
        text("2(2(2(a)))", -5005);
        text("(a)(a)(a)", 3);
        text("((a)((", -5005);
        text("(a3", -1003);
        text("aaaaaaaaaaaaaaaaaaaaaaaaaaaaaaaaaaaaaaaa", 40);
    }

    private static void tooMany() {
        text("6(5(2a))", 60);
        text("9a9a9a9a9a9a6a", 60);
        text("9a9a9a9a9a9a7a", -6012);
        text("9a9a9a9a9a9a6aa", -6014);
        text("9a9a9a9a9a9a6a.x", -6014);
        text("9a9a9a9a9a9a6ax", -1014);
        text("6(9a)6a", 60);
        text("7(9a)", -6000);
        text("7(9a", -1004);
        text("7(9ax)", -1004);
        text("a7(9a)", -6001);
        text("6(9a)7a", -6005);
        text("6(9a)(7a)", -6006);
        text("6(9a)2(4a)", -6005);
        text("6(9a)2(3a)", 60);
        text("2(5(7a))", -6000);
        text("9(9(9a))", -6002);
        text("2(a6(9a))", -6000);
        text("7a2(6(9a))", -6004);
        text("7a6(9a)", -6002);
        text("(9a9a9a9a9a9a9a)", -6013);
        text("6(9a)(6aa)", -6008);
    }

    private static void refusedCalls() {
        VerandaWar war = new VerandaWar();
        Due.feed(war, "ab");
        Due.is("8: side 2", war.signals(2, 2), -1);
        Due.is("8: side -1", war.signals(-1, 2), -1);
        Due.is("8: n 0", war.signals(0, 0), -1);
        Due.is("8: n -1", war.signals(0, -1), -1);
        Due.is("8: not so many", war.signals(0, 21), -1);
        war.feed(0, 0, 0, 0, 0);
        war.feed(0, 0, 0, 0, 0);
        Due.is("8: n 41", war.signals(0, 41), -1);
        Due.is("8: the tape stays", war.count(4), 60);
        Due.is("8: the first two", war.signals(0, 2), 2);
        Due.is("8: empty then", war.count(4), 0);
    }

    private static void answered() {
        Due.is("24: none", Wars.signals("", "").answered(), -2);
        Due.is("24: only side 0", Wars.signals("a", "").answered(), 0);
        Due.is("24: only side 1", Wars.signals("", "a").answered(), 0);
        Due.is("24: the same", Wars.signals("3a.", "aaa.").answered(), -2);
        Due.is("24: shorter", Wars.signals("abc", "ab").answered(), 2);
        Due.is("24: longer", Wars.signals("ab", "abc").answered(), 2);
        Due.is("24: dark is a lamp", Wars.signals("ab", "ab.").answered(), 2);
        Due.is("24: the first", Wars.signals("abcde", "abdde").answered(), 2);
        Due.is("24: at 0", Wars.signals(".bcde", "abcde").answered(), 0);
    }

    private static void common(String a, String b, String want) {
        VerandaWar war = Wars.signals(a, b);
        Due.is("25: length of " + a + " " + b, war.inCommon(100), want.length());
        for (int i = 0; i < 60; i++) {
            int due = i >= want.length() ? -4 : ".abcde".indexOf(want.charAt(i));
            Due.is("25: " + a + " " + b + " at " + i, war.inCommon(i), due);
        }
        for (int what : new int[] {-1, 60, 99, 101}) {
            Due.is("25: what " + what, war.inCommon(what), -1);
        }
    }

    private static void inCommon() {
        common("", "", "");
        common("abc", "", "");
        common("abc", "de.", "");
        common("abc", "abc", "abc");
        common("ab", "ba", "a");
        common(".a", "a.", ".");
        common("abcbdab", "bdcaba", "bcab");
        common("ee.dd", "dd.ee", "dd");
        common("6(5(2e))", "6(5(2e))", "e".repeat(60));
        common("abcdeabcde", "edcbaedcba", "aba");
    }

    private static void beat() {
        String[] texts = {"a", "3a", "ab", "2(ab)", "2(ab)a", "abca", "abcabcab", "aab", "2(aab)aa", "abac", ".a.a."};
        int[] want = {1, 1, 2, 2, 2, 3, 3, 3, 3, 4, 2};
        for (int i = 0; i < texts.length; i++) {
            Due.is("26: " + texts[i], Wars.signals(texts[i], "").beat(0), want[i]);
            Due.is("26: across " + texts[i], Wars.signals("", texts[i]).beat(1), want[i]);
        }
        VerandaWar war = Wars.signals("a", "");
        Due.is("26: none", war.beat(1), -2);
        Due.is("26: side 2", war.beat(2), -1);
        Due.is("26: side -1", war.beat(-1), -1);
    }

    private static void lamps() {
        VerandaWar war = Wars.signals("2(a.b)c9e", "dd");
        int[] near = {2, 2, 2, 1, 0, 9};
        int[] far = {0, 0, 0, 0, 2, 0};
        for (int sign = 0; sign < 6; sign++) {
            Due.is("27: side 0, " + sign, war.lamps(0, sign), near[sign]);
            Due.is("27: side 1, " + sign, war.lamps(1, sign), far[sign]);
        }
        Due.is("27: sign 6", war.lamps(0, 6), -1);
        Due.is("27: sign -1", war.lamps(0, -1), -1);
        Due.is("27: side 2", war.lamps(2, 0), -1);
        Due.is("27: side -1", war.lamps(-1, 0), -1);
        Due.is("27: no signals", Wars.signals("", "").lamps(0, 0), 0);
    }
}
