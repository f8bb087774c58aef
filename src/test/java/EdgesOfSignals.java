/** SIGNALS, sentence by sentence. */
final class EdgesOfSignals {
    private EdgesOfSignals() {
    }

    static void all() {
        length();
        lampsOfATextAndTimes();
        rounds();
        faults();
        none();
    }

    /** What a text answers on both sides; with a fault those before stay. */
    private static void text(String text, int want) {
        for (int side = 0; side < 2; side++) {
            VerandaWar war = new VerandaWar();
            Due.signals(war, 0, "ab.");
            Due.signals(war, 1, "cde.");
            String before = Picture.of(war);
            Due.is(text, Due.signals(war, side, text), want);
            if (want < 0) {
                Due.is("those before stay, " + text, Picture.of(war).equals(before), true);
            } else {
                Due.is("so many, " + text, war.count(side == 0 ? 15 : 25), want);
                Due.is("the other side, " + text, war.count(side == 0 ? 25 : 15), side == 0 ? 4 : 3);
            }
        }
    }

    /** That a text stands for the same lamps as another one, which is written out. */
    private static void same(String text, String lamps) {
        VerandaWar war = new VerandaWar();
        Due.is(text, Due.signals(war, 0, text), lamps.length());
        Due.signals(war, 1, lamps);
        Due.is(text + " is " + lamps, war.answered(), -2);
    }

    private static void length() {
        Due.says("SIGNALS: a TEXT of at most 40 bytes, no blanks:");
        text("a".repeat(40), 40);
        VerandaWar war = new VerandaWar();
        Due.feed(war, "a".repeat(41));
        Due.is("41", war.signals(0, 41), -1);
        Due.is("the tape stays", war.count(4), 60);
        Due.is("40 of it", war.signals(0, 40), 40);
        String text = "2(ab)3.";
        for (int i = 0; i <= text.length(); i++) {
            text(text.substring(0, i) + " " + text.substring(i), -1000 - i);
        }
    }

    private static void lampsOfATextAndTimes() {
        Due.says("LAMPS one behind the other: a letter a to e (a LAMP), or a dot, 46 (dark),");
        for (int sign = 0; sign < 256; sign++) {
            boolean lamp = sign >= 'a' && sign <= 'e' || sign == '.';
            boolean begins = sign >= '2' && sign <= '9' || sign == '(';
            text("" + (char) sign, lamp ? 1 : begins ? -1001 : -1000);
        }
        VerandaWar war = new VerandaWar();
        Due.is(".abcde", Due.signals(war, 1, ".aabbbccccdddddeeeeee"), 21);
        for (int sign = 0; sign < 6; sign++) {
            Due.is("how often " + sign, war.lamps(1, sign), sign + 1);
        }
        Due.says("ahead of each perhaps a digit 2 to 9 (so many times);");
        for (int digit = 2; digit < 10; digit++) {
            same(digit + "a", "a".repeat(digit));
            same("b" + digit + ".c", "b" + ".".repeat(digit) + "c");
        }
        text("0a", -1000);
        text("1a", -1000);
        text("b0a", -1001);
        text("b1a", -1001);
        text("22a", -1001);
        text("a2", -1002);
    }

    private static void rounds() {
        Due.says("(LAMPS) likewise (one at least).");
        same("(a)", "a");
        same("2(a)", "aa");
        same("9(ab)", "ababababababababab");
        same("3(a2(bc)d).", "abcbcdabcbcdabcbcd.");
        same("2(2a)", "aaaa");
        same("(a)(b)", "ab");
        same("2((a)b)", "abab");
        text("()", -1001);
        text("2()", -1002);
        text("(())", -1002);
        text("a()", -1002);
        text("(a())", -1003);
        text("1(a)", -1000);
        text("23(a)", -1001);
        Due.says("60 at most in all.");
        text("6(9a)6a", 60);
        text("6(9a)7a", -6005);
        text("9a9a9a9a9a9a6.", 60);
        text("9a9a9a9a9a9a6.b", -6014);
        text("2(5(6a))", 60);
        text("5(2(6a))a", -6008);
        text("6(5(2b))", 60);
        text("a".repeat(32) + "9.9.9.", 59);
    }

    private static void faults() {
        Due.says("FAULTS: 1 what can't stand there (the end, too);");
        String[] begun = {"2", "(", "(a", "(2", "((", "((a", "((a)", "2(", "a(", "a2", "3(a3"};
        for (String text : begun) {
            text(text, -1000 - text.length());
            text(text + "x", -1000 - text.length());
            text(text + "x(((", -1000 - text.length());
        }
        text(")", -1000);
        text("a)", -1001);
        text("(a))", -1003);
        text("2)", -1001);
        text("(2)", -1002);
        text("A", -1000);
        text("f", -1000);
        text("a;b", -1001);
        Due.says("5 a third ( that is open in another one, at it;");
        text("(((", -5002);
        text("(((a)))", -5002);
        text("((((", -5002);
        text("2(2(2(", -5005);
        text("(a(b(c)))", -5004);
        text("((a)(b(", -5006);
        text("((a))", 1);
        text("((a)(b))((c))", 3);
        text("(a)(a)(a)", 3);
        text("6(9a)7a(((", -6005);
        Due.says("6 more than 60, at the first byte of what (or its digit) by which they are (asked when it ends; of an inner one "
            + "first).");
        text("6(9a)6aa", -6007);
        text("6(9a)6a2a", -6007);
        text("6(9a)6a(a)", -6008);
        text("6(9a)6a2(a)", -6009);
        text("6(9a)6a2(2a)", -6009);
        text("7(9a)", -6000);
        text("a7(9a)", -6001);
        text("(7(9a))", -6001);
        text("2(7(9a))", -6002);
        text("7(9a", -1004);
        text("7(9a?", -1004);
        text("7(9a)?", -6000);
        text("6(9a)7a?", -6005);
        text("6(9a)7?", -1006);
        text("6(9a)2(4a)", -6005);
        text("6(9a)2(3a)", 60);
        text("6(9a)(7a)", -6006);
        text("2(4(8a))", -6000);
        text("5(5a4(2a))", -6000);
    }

    private static void none() {
        Due.says("Each side has SIGNALS (none at first).");
        VerandaWar war = new VerandaWar();
        Due.is("none of side 0", war.count(15), 0);
        Due.is("none of side 1", war.count(25), 0);
        Due.signals(war, 0, "ab");
        Due.is("two of side 0", war.count(15), 2);
        Due.is("still none of side 1", war.count(25), 0);
        Due.signals(war, 1, "c");
        Due.is("still two of side 0", war.count(15), 2);
        Due.is("one of side 1", war.count(25), 1);
        Due.is("a of side 0", war.lamps(0, 1), 1);
        Due.is("c of side 1", war.lamps(1, 3), 1);
        Due.is("c of side 0", war.lamps(0, 3), 0);
    }
}
