import java.util.ArrayList;
import java.util.List;
import java.util.function.ToIntFunction;

/** The terms from ANSWERED to CHECK and the words behind them, sentence by sentence. */
final class EdgesOfGames {
    private EdgesOfGames() {
    }

    static void all() {
        answered();
        inCommon();
        beat();
        lamps();
        hands();
        followingSuit();
        taking();
        playedBest();
        parrots();
        ants();
        kept();
        check();
        memory();
        refusedCalls();
        constants();
    }

    private static void answered() {
        Due.says("ANSWERED: the first place at which the SIGNALS of side 1 are not those of side 0 (the shorter one's end, too).");
        String sixty = "6(9a)6a";
        String[][] twos = {{"", ""}, {"a", ""}, {"", "a"}, {"a", "a"}, {"a", "b"}, {"ab", "a"}, {"a", "ab"}, {"ab", "ab."},
            {"abc", "abd"}, {"abc", "bbd"}, {sixty, sixty}, {sixty, "6(9a)5a"}, {"6(9a)5ab", sixty}};
        int[] places = {-2, 0, 0, -2, 0, 1, 1, 2, 2, 0, -2, 59, 59};
        for (int i = 0; i < twos.length; i++) {
            Due.is(twos[i][0] + " and " + twos[i][1], Wars.signals(twos[i][0], twos[i][1]).answered(), places[i]);
        }
    }

    private static void common(String a, String b, String want) {
        VerandaWar war = Wars.signals(a, b);
        Due.is(a + " and " + b, war.inCommon(100), want.length());
        for (int i = 0; i < 60; i++) {
            int due = i < want.length() ? ".abcde".indexOf(want.charAt(i)) : -4;
            Due.is(a + " and " + b + " at " + i, war.inCommon(i), due);
        }
    }

    /** All rows of three signs that are not longer than so many. */
    private static List<String> rows(int most) {
        List<String> rows = new ArrayList<>(List.of(".", "a", "b"));
        for (int i = 0; rows.get(i).length() < most; i++) {
            rows.add(rows.get(i) + ".");
            rows.add(rows.get(i) + "a");
            rows.add(rows.get(i) + "b");
        }
        return rows;
    }

    /** Finds the row in common among all parts of one that are parts of the other. */
    private static void common(String a, String b) {
        String best = "";
        for (int bits = 0; bits < 1 << a.length(); bits++) {
            StringBuilder part = new StringBuilder();
            StringBuilder pattern = new StringBuilder(".*");
            for (int i = 0; i < a.length(); i++) {
                if ((bits >> i & 1) == 1) {
                    part.append(a.charAt(i));
                    pattern.append('[').append(a.charAt(i)).append("].*");
                }
            }
            String found = part.toString();
            boolean better = found.length() > best.length() || found.length() == best.length() && found.compareTo(best) < 0;
            if (better && b.matches(pattern.toString())) {
                best = found;
            }
        }
        VerandaWar war = Wars.signals(a, b);
        StringBuilder got = new StringBuilder();
        for (int i = 0; i < war.inCommon(100); i++) {
            got.append(".abcde".charAt(Math.max(0, war.inCommon(i))));
        }
        Due.is(a + " and " + b + " have " + best + ", not " + got, got.toString().equals(best), true);
    }

    private static void inCommon() {
        Due.says("IN COMMON: the longest row of LAMPS that both have in this order (not side by side perhaps); of like ones the least "
            + "(a dot ahead of a).");
        common("", "", "");
        common("a", "", "");
        common("", "a", "");
        common("a", "b", "");
        common("a", "a", "a");
        common("abcde.", "abcde.", "abcde.");
        common("acbd", "abcd", "abd");
        common("a.b.c.", "abc", "abc");
        common("ab", "ba", "a");
        common(".a", "a.", ".");
        common("ea", "ae", "a");
        common("de", "ed", "d");
        common("ba.", ".ab", ".");
        common("caab", "abca", "aa");
        common("abab", "baba", "aba");
        common("6(9e)6e", "6(9e)6e", "e".repeat(60));
        common("6(9e)6e", "e", "e");
        common("e", "6(9e)6e", "e");
        common("ab", "2a2b", "ab");
        common("2a2b", "ab", "ab");
        common("ab.", "aab..", "ab.");
        common("aab..", "ab.", "ab.");
        common("2(a.)6(9b)2c", "2c6(9b)2(.a)", "b".repeat(54));
        common("4caedb", "edab", "edb");
        common("edab", "4caedb", "edb");
        common("ab", "2cab", "ab");
        common("2cab", "ab", "ab");
        List<String> rows = rows(4);
        for (String a : rows) {
            for (String b : rows) {
                common(a, b);
            }
        }
    }

    private static void beat() {
        Due.says("BEAT: the shortest row of which the SIGNALS of a side are made, one behind the other, the last one cut perhaps.");
        String[] texts = {"a", "aa", "6(9a)6a", "ab", "aba", "abab", "ababa", "abac", "abca", "abcabcab", "aab", "aabaa", "aabaab",
            "6(9a)5ab", "b6(9a)5a", ".", "..a..", "5(6(ab))", "5(6(ab))".replace("b", "a")};
        int[] beats = {1, 1, 1, 2, 2, 2, 2, 4, 3, 3, 3, 3, 3, 60, 60, 1, 3, 2, 1};
        for (int i = 0; i < texts.length; i++) {
            Due.is(texts[i], Wars.signals(texts[i], "").beat(0), beats[i]);
            Due.is(texts[i] + ", side 1", Wars.signals("", texts[i]).beat(1), beats[i]);
        }
    }

    private static void lamps() {
        Due.says("LAMPS of a side: how often a sign is among them.");
        VerandaWar war = Wars.signals("6(9e)6e", "2(.ab)3d");
        int[] far = {2, 2, 2, 0, 3, 0};
        for (int sign = 0; sign < 6; sign++) {
            Due.is("side 0, " + sign, war.lamps(0, sign), sign == 5 ? 60 : 0);
            Due.is("side 1, " + sign, war.lamps(1, sign), far[sign]);
        }
        Due.is("no signals", new VerandaWar().lamps(0, 0), 0);
    }

    private static void cards(int trumps, int leads, int tricks, int card, int... cards) {
        int[] want = {tricks, card};
        for (int what = 0; what < 2; what++) {
            VerandaWar war = new VerandaWar();
            Due.feed(war, cards);
            StringBuilder name = new StringBuilder("trumps " + trumps + ", " + leads + " leads, what " + what + " of");
            for (int next : cards) {
                name.append(' ').append(next);
            }
            Due.is(name.toString(), war.bridge(cards.length / 4, trumps, leads, what), want[what]);
        }
    }

    private static void hands() {
        Due.says("BRIDGE: four hands of 1 to 3 cards each (0 to 51: 13 times the suit 0 to 3, and the rank 0 to 12), of players 0 to 3;");
        cards(4, 0, 1, 12, 12, 11, 10, 9);
        cards(4, 0, 1, 51, 51, 50, 49, 48);
        cards(4, 0, 0, 48, 48, 49, 50, 51);
        // Rank 12 of suit 0 is 12, rank 0 of suit 1 is 13.
        cards(4, 0, 1, 12, 12, 13, 25, 11);
        cards(1, 0, 0, 12, 12, 13, 11, 10);
        cards(1, 0, 0, 12, 12, 25, 11, 10);
        cards(1, 0, 1, 12, 12, 26, 11, 10);
        cards(2, 0, 0, 12, 12, 26, 11, 10);
        cards(3, 0, 0, 12, 12, 39, 11, 10);
        cards(0, 1, 1, 51, 0, 51, 50, 49);
        cards(4, 0, 2, 11, 12, 11, 0, 1, 10, 9, 2, 3);
        cards(4, 0, 3, 10, 12, 11, 10, 0, 1, 2, 9, 8, 7, 3, 4, 5);
        VerandaWar war = new VerandaWar();
        Due.feed(war, 12, 11, 10, 9, 8, 7, 6, 5, 4, 3, 2, 1, 0, 51, 50, 49);
        Due.is("no cards", war.bridge(0, 4, 0, 0), -1);
        Due.is("four cards each", war.bridge(4, 4, 0, 0), -1);
        Due.is("player -1", war.bridge(1, 4, -1, 0), -1);
        Due.is("player 4", war.bridge(1, 4, 4, 0), -1);
        Due.is("three cards each", war.bridge(3, 4, 3, 0), 3);
        Due.feed(war, 52, 11, 10, 9);
        Due.is("card 52", war.bridge(1, 4, 0, 0), -2);
    }

    private static void followingSuit() {
        Due.says("one leads, each in turn (player one more, behind 3: 0) follows suit if it can;");
        // With trumps 1, whoever has nothing else trumps what is led of suit 0.
        cards(1, 0, 0, 12, 12, 13, 1, 2);
        cards(1, 3, 1, 12, 13, 1, 2, 12);
        cards(1, 3, 0, 12, 1, 13, 2, 12);
        cards(1, 3, 1, 12, 1, 2, 13, 12);
        // Player 1 has a card of suit 0 and must not trump yet: he would take both.
        cards(1, 0, 1, 12, 12, 26, 0, 13, 1, 27, 2, 28);
        // Behind 3 comes 0, who lays last and would take what is led of suit 0.
        cards(4, 1, 1, 39, 10, 26, 9, 39, 0, 40, 1, 41);
        cards(4, 0, 1, 0, 0, 25, 13, 12, 1, 24, 14, 2);
        // What is led is followed, not what was laid upon it: player 1 trumps (26 to 38) suit 0, but 2 and 3 have it still.
        cards(2, 0, 0, 12, 13, 12, 27, 14, 2, 26, 1, 28);
        // Player 0 trumps (0 to 12) suit 1, but 1 and 2 have it still.
        cards(0, 3, 2, 25, 0, 28, 15, 14, 13, 2, 30, 25);
    }

    private static void taking() {
        Due.says("the highest card of trumps (a suit, or none: 4), or else of the suit that was led, takes the trick, and leads the next.");
        for (int suit = 0; suit < 4; suit++) {
            int led = suit == 0 ? 13 : 0;
            // Player 1 trumps, player 3 trumps higher than him, or player 2 does.
            cards(suit, 0, 0, led, led, 13 * suit, led + 1, led + 2);
            cards(suit, 0, 1, led, led, 13 * suit, 13 * suit + 1, led + 2);
            cards(suit, 0, 0, led, led, 13 * suit, 13 * suit + 1, 13 * suit + 12);
            // Without trumps it is but another suit.
            cards(4, 0, 1, led, led, 13 * suit, led == 13 ? 1 : 14, 39 + (suit == 3 ? 5 : 0));
        }
        cards(4, 0, 1, 0, 0, 25, 38, 51);
        cards(4, 0, 0, 0, 0, 1, 38, 51);
        // Player 2 takes the first trick, and then his own suit.
        cards(4, 0, 3, 0, 0, 26, 27, 13, 14, 15, 12, 50, 51, 1, 40, 41);
        // Player 1 would take the first trick, and then his own suit: so that suit 2 is led ahead of it.
        cards(4, 0, 2, 26, 0, 26, 27, 12, 50, 51, 13, 14, 15, 1, 40, 41);
        VerandaWar war = new VerandaWar();
        Due.feed(war, 12, 11, 10, 9);
        Due.is("trumps 5", war.bridge(1, 5, 0, 0), -1);
        Due.is("trumps -1", war.bridge(1, -1, 0, 0), -1);
        Due.is("trumps 4", war.bridge(1, 4, 0, 0), 1);
    }

    private static void playedBest() {
        Due.says("0 and 2 play against 1 and 3, all best, all seeing all: how many tricks 0 and 2 take; which card is led best (the "
            + "lowest that does as well).");
        cards(4, 0, 1, 12, 12, 11, 10, 9);
        cards(4, 2, 1, 12, 10, 11, 12, 9);
        cards(4, 1, 0, 12, 11, 12, 10, 9);
        cards(4, 3, 0, 12, 11, 10, 9, 12);
        // Led by player 2 towards ace and jack, the king in front of them is caught; player 0 himself can't.
        cards(4, 2, 2, 0, 12, 9, 2, 14, 0, 13, 11, 1);
        cards(4, 0, 1, 9, 12, 9, 2, 14, 0, 13, 11, 1);
        // Of three that take all, the lowest.
        cards(4, 0, 3, 10, 10, 11, 12, 0, 1, 2, 3, 4, 5, 6, 7, 8);
        cards(4, 0, 3, 10, 12, 11, 10, 0, 1, 2, 3, 4, 5, 6, 7, 8);
        cards(4, 0, 3, 10, 12, 10, 11, 0, 1, 2, 3, 4, 5, 6, 7, 8);
        cards(4, 1, 0, 10, 0, 1, 2, 12, 11, 10, 3, 4, 5, 6, 7, 8);
        cards(4, 1, 0, 10, 0, 1, 2, 10, 11, 12, 3, 4, 5, 6, 7, 8);
        cards(4, 1, 0, 10, 0, 1, 2, 11, 10, 12, 3, 4, 5, 6, 7, 8);
        // Of those that take none, the lowest.
        cards(4, 0, 0, 1, 2, 1, 12, 11, 3, 13, 4, 14);
        // Only the higher one does: the lower one gives the trick away.
        cards(4, 0, 2, 12, 12, 0, 11, 13, 10, 14, 9, 15);
        // Player 3 leads best for 1 and 3.
        cards(4, 3, 0, 12, 0, 13, 11, 14, 10, 15, 12, 1);
    }

    private static void odds(int many, int above, int below, int exactly, int under, int... tenths) {
        int[] want = {above, below, exactly, under};
        for (int what = 0; what < 4; what++) {
            VerandaWar war = new VerandaWar();
            Due.feed(war, tenths);
            Due.is(many + " of " + tenths.length + ", what " + what, war.parrots(tenths.length, many, what), want[what]);
        }
    }

    private static void parrots() {
        Due.says("PARROTS: 1 to 8, each of which arrives in so many tenths: ODDS that at least so many do; exactly so many.");
        odds(0, 1, 1, 2, 5, 6);
        odds(1, 3, 5, 3, 5, 6);
        odds(1, 0, 1, 0, 1, 0);
        odds(1, 1, 1, 1, 1, 10);
        odds(2, 1, 2, 1, 2, 10, 5);
        odds(1, 1, 1, 1, 2, 10, 5);
        odds(2, 1, 2, 3, 8, 5, 5, 5);
        odds(0, 1, 1, 1, 100000000, 9, 9, 9, 9, 9, 9, 9, 9);
        odds(8, 43046721, 100000000, 43046721, 100000000, 9, 9, 9, 9, 9, 9, 9, 9);
        odds(8, 1, 1, 1, 1, 10, 10, 10, 10, 10, 10, 10, 10);
        odds(8, 0, 1, 0, 1, 10, 10, 10, 10, 10, 10, 10, 0);
        odds(7, 1, 1, 1, 1, 10, 10, 10, 10, 10, 10, 10, 0);
        odds(4, 163, 256, 35, 128, 5, 5, 5, 5, 5, 5, 5, 5);
        VerandaWar war = new VerandaWar();
        Due.feed(war, 5, 5, 5, 5, 5, 5, 5, 5, 5);
        Due.is("none", war.parrots(0, 0, 0), -1);
        Due.is("nine", war.parrots(9, 0, 0), -1);
        Due.is("one of nine", war.parrots(8, 0, 0), 1);
    }

    private static void eaten(int from, int last, int[] wood, int... want) {
        for (int what = 0; what < 9; what++) {
            VerandaWar war = new VerandaWar();
            Due.feed(war, wood);
            Due.is("from " + from + ", what " + what, war.ants(from, what), what == 8 ? last : want[what]);
        }
    }

    private static void ants() {
        Due.says("WHITE ANTS: on the rail of a side, from a CHAIR, in each of 8 CHAIRS so much wood (1 to 99 WATCHES to eat; a CHAIR once "
            + "begun by the neighbour that is eaten first): behind how many WATCHES a CHAIR is eaten; which is the last (of like ones "
            + "the lowest).");
        int[] ones = {1, 1, 1, 1, 1, 1, 1, 1};
        int[] most = {99, 99, 99, 99, 99, 99, 99, 99};
        eaten(0, 7, ones, 1, 2, 3, 4, 5, 6, 7, 8);
        eaten(7, 0, ones, 8, 7, 6, 5, 4, 3, 2, 1);
        eaten(3, 7, ones, 4, 3, 2, 1, 2, 3, 4, 5);
        eaten(4, 0, ones, 5, 4, 3, 2, 1, 2, 3, 4);
        eaten(0, 7, most, 99, 198, 297, 396, 495, 594, 693, 792);
        eaten(3, 7, most, 396, 297, 198, 99, 198, 297, 396, 495);
        eaten(3, 0, new int[] {2, 1, 1, 1, 1, 1, 1, 1}, 5, 3, 2, 1, 2, 3, 4, 5);
        eaten(1, 0, new int[] {99, 1, 1, 1, 1, 1, 1, 1}, 100, 1, 2, 3, 4, 5, 6, 7);
        eaten(1, 7, new int[] {6, 1, 1, 1, 1, 1, 1, 2}, 7, 1, 2, 3, 4, 5, 6, 8);
        eaten(1, 0, new int[] {7, 1, 1, 1, 1, 1, 1, 2}, 8, 1, 2, 3, 4, 5, 6, 8);
        for (int c = 0; c < 8; c++) {
            int[] bad = ones.clone();
            bad[c] = 0;
            eaten(3, -2, bad, -2, -2, -2, -2, -2, -2, -2, -2);
            bad[c] = 100;
            eaten(3, -2, bad, -2, -2, -2, -2, -2, -2, -2, -2);
        }
    }

    /** A war with something of everything in it, whose watches change all of it. */
    private static VerandaWar lively() {
        VerandaWar war = new VerandaWar();
        war.chair(0, 0, 3, 60, 2);
        war.chair(0, 4, 5, 80, 0);
        war.chair(0, 7, 1, 40, 9);
        war.chair(1, 1, 2, 70, 1);
        war.chair(1, 6, 8, 90, 4);
        war.floor(0, 40);
        war.floor(1, 60);
        war.column(5, 30);
        war.column(20, 50);
        Due.law(war, "b2+s(1=1);t1+c%3(1=1);w3(1=1);x(k=1&h=3)");
        Due.signals(war, 0, "2(ab.)c");
        Due.signals(war, 1, "3(a.)e");
        war.watches(5);
        return war;
    }

    private static void kept() {
        Due.says("KEPT: GENTLEMEN, WATCH, DAY, X, who LOST; UNDONE: as they were KEPT last.");
        VerandaWar war = lively();
        war.keep();
        String before = Picture.of(war);
        war.watches(30);
        Due.orders(war, "<0L9;<0C9;<4G3;>1I");
        war.seed(5);
        war.chair(0, 6, 1, 1, 1);
        Due.is("all is changed", Picture.of(war).equals(before), false);
        Due.is("undone", war.undo(), true);
        Due.is("as it was", Picture.of(war).equals(before), true);
        war.watches(7);
        Due.is("undone again", war.undo(), true);
        Due.is("as it was again", Picture.of(war).equals(before), true);
        war.watches(120);
        war.watches(120);
        Due.is("somebody has lost", war.count(2) != 0, true);
        String later = Picture.of(war);
        war.keep();
        war.chair(0, 0, 1, 1, 1);
        Due.is("undone, the last one", war.undo(), true);
        Due.is("as it was kept last", Picture.of(war).equals(later), true);
        war.floor(0, 1);
        war.column(3, 4);
        Due.law(war, "b1(1=1)");
        Due.signals(war, 0, "e");
        war.feed(0, 0, 0, 0, 0);
        war.undo();
        Due.is("the floor is not kept", war.count(14), 1);
        Due.is("the column is not kept", war.count(103), 4);
        Due.is("the law is not kept", war.count(3), 1);
        Due.is("the signals are not kept", war.count(15), 1);
        Due.is("the tape is not kept", war.count(4), 20);
    }

    private static void check() {
        Due.says("CHECK: BOREDOM of a side by CHAIRS: right, or the first that is not so.");
        VerandaWar war = new VerandaWar();
        for (int c = 0; c < 8; c++) {
            war.chair(0, c, 0, 50, 0);
            war.chair(1, c, 0, 50, 0);
        }
        Due.law(war, "b1+c+10*s(1=1)");
        war.watches(1);
        for (int side = 0; side < 2; side++) {
            for (int first = 0; first < 9; first++) {
                for (int second = first; second < 9; second++) {
                    int[] row = new int[8];
                    for (int c = 0; c < 8; c++) {
                        row[c] = 1 + c + 10 * side + (c == first ? 1 : 0) - (c == second ? 1 : 0);
                    }
                    int want = first == second ? -1 : first;
                    Due.feed(war, row);
                    Due.is("side " + side + ", " + first + " and " + second, war.check(side, 8), want);
                }
            }
        }
    }

    private static void memory() {
        Due.says("All memory is the valley's own.");
        VerandaWar quiet = new VerandaWar();
        String before = Picture.of(quiet);
        VerandaWar war = lively();
        war.keep();
        war.seed(9);
        war.feed(1, 2, 3, 4, 5);
        Due.is("another object is as it was", Picture.of(quiet).equals(before), true);
        Due.is("it has kept nothing", quiet.undo(), false);
        Due.is("a new one is so, too", Picture.of(new VerandaWar()).equals(before), true);
        String own = Picture.of(war);
        quiet.chair(0, 0, 9, 9, 9);
        quiet.floor(1, 0);
        Due.signals(quiet, 0, "9e");
        Due.law(quiet, "b9(1=1)");
        quiet.watches(3);
        Due.is("what it does is its own", Picture.of(war).equals(own), true);
    }

    private static void refuse(VerandaWar war, String name, int want, ToIntFunction<VerandaWar> call) {
        String before = Picture.of(war);
        Due.is(name, call.applyAsInt(war), want);
        Due.is(name + " changes nothing", Picture.of(war).equals(before), true);
    }

    private static int bit(boolean answer) {
        return answer ? 1 : 0;
    }

    private static void refusedCalls() {
        Due.says("A call that is refused (NONE, false) changes nothing but the tape, where it is told.");
        VerandaWar war = lively();
        refuse(war, "undo", 0, w -> bit(w.undo()));
        war.keep();
        String kept = Picture.withoutTape(war);
        refuseChanges(war);
        Due.feed(war, "b1(1=1)");
        refuseTexts(war);
        refuseQuestions(war);
        Due.is("the tape has what it had", war.law(7), 1);
        VerandaWar other = lively();
        other.keep();
        refuseChanges(other);
        refuseQuestions(other);
        Due.law(other, "b9(1=1)");
        other.watches(9);
        other.undo();
        Due.law(other, "b2+s(1=1);t1+c%3(1=1);w3(1=1);x(k=1&h=3)");
        Due.is("what was kept is as it was", Picture.withoutTape(other).equals(kept), true);
        VerandaWar full = lively();
        for (int i = 0; i < 13; i++) {
            full.feed(0x78282828, 0, 0, 0, 0);
        }
        refuse(full, "feed", -1, w -> w.feed(1, 1, 1, 1, 1));
        refuse(full, "law 241", -1, w -> w.law(241));
        refuse(full, "orders 121", -1, w -> w.orders(121));
        refuse(full, "signals 41", -1, w -> w.signals(0, 41));
        refuse(full, "check 9", -2, w -> w.check(0, 9));
        String before = Picture.withoutTape(full);
        Due.is("a fault", full.law(4), -1004);
        Due.is("changes the tape alone", Picture.withoutTape(full).equals(before), true);
        Due.is("that is empty then", full.count(4), 0);
    }

    private static void refuseChanges(VerandaWar war) {
        refuse(war, "chair side", 0, w -> bit(w.chair(2, 0, 1, 1, 1)));
        refuse(war, "chair c", 0, w -> bit(w.chair(0, 8, 1, 1, 1)));
        refuse(war, "chair rank", 0, w -> bit(w.chair(0, 0, 10, 1, 1)));
        refuse(war, "chair lemonade", 0, w -> bit(w.chair(0, 0, 1, 100, 1)));
        refuse(war, "chair cushions", 0, w -> bit(w.chair(0, 0, 1, 1, 10)));
        refuse(war, "floor side", 0, w -> bit(w.floor(-1, 1)));
        refuse(war, "floor height", 0, w -> bit(w.floor(0, 100)));
        refuse(war, "column", 0, w -> bit(w.column(24, 1)));
        refuse(war, "column height", 0, w -> bit(w.column(0, 200)));
        refuse(war, "watches 0", -1, w -> w.watches(0));
        refuse(war, "watches 121", -1, w -> w.watches(121));
        refuse(war, "capture", 0, w -> bit(w.capture(0, 4, 0)));
        refuse(war, "seed", 0, w -> bit(w.seed(65536)));
    }

    private static void refuseTexts(VerandaWar war) {
        refuse(war, "law 0", -1, w -> w.law(0));
        refuse(war, "law 21", -1, w -> w.law(21));
        refuse(war, "orders 0", -1, w -> w.orders(0));
        refuse(war, "orders 21", -1, w -> w.orders(21));
        refuse(war, "signals 0", -1, w -> w.signals(0, 0));
        refuse(war, "signals 21", -1, w -> w.signals(0, 21));
        refuse(war, "signals side", -1, w -> w.signals(2, 1));
        refuse(war, "bridge 0", -1, w -> w.bridge(0, 0, 0, 0));
        refuse(war, "bridge 4", -1, w -> w.bridge(4, 0, 0, 0));
        refuse(war, "bridge trumps", -1, w -> w.bridge(1, 5, 0, 0));
        refuse(war, "bridge leads", -1, w -> w.bridge(1, 0, 4, 0));
        refuse(war, "bridge what", -1, w -> w.bridge(1, 0, 0, 2));
        refuse(war, "parrots 0", -1, w -> w.parrots(0, 0, 0));
        refuse(war, "parrots 9", -1, w -> w.parrots(9, 0, 0));
        refuse(war, "parrots many", -1, w -> w.parrots(1, 9, 0));
        refuse(war, "parrots what", -1, w -> w.parrots(1, 0, 4));
        refuse(war, "ants from", -1, w -> w.ants(8, 0));
        refuse(war, "ants what", -1, w -> w.ants(0, 9));
        refuse(war, "check side", -2, w -> w.check(2, 1));
        refuse(war, "check -1", -2, w -> w.check(0, -1));
    }

    private static void refuseQuestions(VerandaWar war) {
        refuse(war, "tried n", -1, w -> w.tried(121, 0));
        refuse(war, "tried what", -1, w -> w.tried(1, 4));
        refuse(war, "chairIs what", -1, w -> w.chairIs(0, 0, 7));
        refuse(war, "sees", -1, w -> w.sees(1, 1));
        refuse(war, "toSee", -1, w -> w.toSee(0, 0, 0));
        refuse(war, "overTrees", -1, w -> w.overTrees(3));
        refuse(war, "hidden", -1, w -> w.hidden(3));
        refuse(war, "whenIn", -1, w -> w.whenIn(0, 0, 121));
        refuse(war, "first", -1, w -> w.first(1, 3));
        refuse(war, "loses", -1, w -> w.loses(1, 2));
        refuse(war, "lasts", -1, w -> w.lasts(0, 0, 61));
        refuse(war, "glasses", -1, w -> w.glasses(8));
        refuse(war, "march", -1, w -> w.march(2));
        refuse(war, "ridge", -1, w -> w.ridge(2));
        refuse(war, "inCommon", -1, w -> w.inCommon(60));
        refuse(war, "beat", -1, w -> w.beat(2));
        refuse(war, "lamps", -1, w -> w.lamps(0, 6));
        refuse(war, "count", -1, w -> w.count(6));
    }

    private static void constants() {
        Due.says("The constants: `NONE = -1`: There is none.");
        Due.is("NONE", VerandaWar.NONE, -1);
    }
}
