/** Promises 12 to 16 and 23: who sees whom over the trees. */
public final class SightTest {
    public static void main(String[] args) {
        sees();
        chairsApart();
        lowColumns();
        toSee();
        overTrees();
        hidden();
        capture();
        ridge();
        Due.end();
    }

    private static VerandaWar two() {
        VerandaWar war = new VerandaWar();
        war.chair(0, 0, 0, 50, 0);
        war.chair(1, 0, 0, 50, 0);
        return war;
    }

    private static void sees() {
        VerandaWar war = two();
        Due.is("12: free", war.sees(0, 0), 1);
        Due.is("12: empty", war.sees(1, 0), -1);
        Due.is("12: empty across", war.sees(0, 1), -1);
        Due.is("12: chair 8", war.sees(8, 0), -1);
        Due.is("12: chair -1", war.sees(0, -1), -1);
        war.column(5, 49);
        Due.is("12: lower", war.sees(0, 0), 1);
        war.column(5, 50);
        Due.is("12: as high as the line", war.sees(0, 0), 0);
        war.column(5, 0);
        war.floor(0, 25);
        war.floor(1, 75);
        for (int i = 0; i < 24; i++) {
            int line = 25 + 2 * (i + 1);
            war.column(i, line);
            Due.is("12: on the line, " + i, war.sees(0, 0), 0);
            war.column(i, line - 1);
            Due.is("12: below the line, " + i, war.sees(0, 0), 1);
        }
        war.floor(0, 24);
        Due.is("12: part of one too high", war.sees(0, 0), 1);
        war.floor(0, 23);
        Due.is("12: too low at the near end", war.sees(0, 0), 0);
        VerandaWar low = two();
        low.floor(0, 0);
        low.floor(1, 0);
        Due.is("12: not below 0", low.sees(0, 0), 0);
        low.floor(1, 1);
        Due.is("12: above 0", low.sees(0, 0), 1);
        Due.orders(low, "<0I;>0I");
        Due.is("12: where they are, in", low.sees(0, 0), 1);
    }

    /** Side 0: chair 0 with no cushion, 3 with eight; side 1: chair 2 with one, 6 with nine; a tree for the high ones. */
    private static VerandaWar four() {
        VerandaWar war = new VerandaWar();
        war.chair(0, 0, 0, 50, 0);
        war.chair(0, 3, 0, 50, 8);
        war.chair(1, 2, 0, 50, 1);
        war.chair(1, 6, 0, 50, 9);
        war.column(12, 70);
        return war;
    }

    private static void chairsApart() {
        VerandaWar war = four();
        Due.is("12: low, low", war.sees(0, 2), 0);
        Due.is("12: low, high", war.sees(0, 6), 1);
        Due.is("12: high, low", war.sees(3, 2), 1);
        Due.is("12: high, high", war.sees(3, 6), 1);
        Due.is("12: nobody in 2 of side 0", war.sees(2, 2), -1);
        Due.is("12: nobody in 3 of side 1", war.sees(3, 3), -1);
        Due.is("11: chair 0 sees", war.chairIs(0, 0, 5), 64);
        Due.is("11: chair 3 sees", war.chairIs(0, 3, 5), 68);
        Due.is("11: chair 2 across sees", war.chairIs(1, 2, 5), 8);
        Due.is("11: chair 6 across sees", war.chairIs(1, 6, 5), 9);
        Due.is("13: 0 to 2", war.toSee(0, 0, 2), 8);
        Due.is("13: 3 to 2", war.toSee(0, 3, 2), 0);
        Due.is("13: 2 to 0", war.toSee(1, 2, 0), 7);
        Due.is("13: 6 to 0", war.toSee(1, 6, 0), 0);
        Due.is("14: three of four", war.overTrees(0), 3);
        Due.is("14: the tree", war.overTrees(1), 12);
        Due.is("14: one more", war.overTrees(2), 1);
        Due.is("15: two", war.hidden(0), 2);
        Due.is("15: chair 3 of side 0, or all across", war.hidden(1), 0);
        war.watches(5);
        Due.orders(war, ">2I;>6I");
        Due.is("16: not seen", war.capture(0, 0, 2), false);
        Due.is("16: seen", war.capture(0, 3, 2), true);
        Due.is("16: seen, high", war.capture(0, 0, 6), true);
        war.floor(0, 10);
        Due.orders(war, ">2O;>6O;<0C8;>2C0");
        Due.is("14: floors apart", war.overTrees(0), 1 + 1);
    }

    /** Column 0, a column of 1, and eyes so low that a column of 1 would be in the way. */
    private static void lowColumns() {
        VerandaWar war = two();
        war.column(0, 55);
        Due.is("14: column 0", war.overTrees(1), 0);
        war.column(0, 0);
        war.floor(0, 0);
        war.floor(1, 1);
        war.column(9, 1);
        Due.is("14: a column of 1", war.overTrees(1), 9);
        Due.is("14: by it", war.overTrees(2), 1);
    }

    private static void toSee() {
        VerandaWar war = two();
        Due.is("13: he does", war.toSee(0, 0, 0), 0);
        war.column(0, 60);
        Due.is("13: near", war.toSee(0, 0, 0), 3);
        Due.is("13: from afar", war.toSee(1, 0, 0), -2);
        war.column(23, 199);
        Due.is("13: not by any", war.toSee(0, 0, 0), -2);
        war.column(23, 0);
        war.column(0, 92);
        Due.is("13: 9 in all", war.toSee(0, 0, 0), 9);
        Due.orders(war, "<0C7");
        Due.is("13: 2 more", war.toSee(0, 0, 0), 2);
        Due.orders(war, "<0C9");
        Due.is("13: none", war.toSee(0, 0, 0), 0);
        war.column(0, 94);
        Due.is("13: no tenth", war.toSee(0, 0, 0), -2);
        Due.orders(war, ">0I");
        Due.is("13: one who is in", war.toSee(1, 0, 0), 5);
        Due.is("13: nothing is changed", war.chairIs(1, 0, 3), 0);
        Due.is("13: empty", war.toSee(0, 1, 0), -1);
        Due.is("13: empty across", war.toSee(0, 0, 1), -1);
        Due.is("13: side 2", war.toSee(2, 0, 0), -1);
        Due.is("13: side -1", war.toSee(-1, 0, 0), -1);
        Due.is("13: chair 8", war.toSee(0, 8, 0), -1);
        Due.is("13: chair 8 across", war.toSee(0, 0, 8), -1);
    }

    private static void overTrees() {
        VerandaWar war = new VerandaWar();
        Due.is("14: nobody", war.overTrees(0), 0);
        Due.is("14: no column", war.overTrees(1), -2);
        Due.is("14: no more", war.overTrees(2), 0);
        Due.is("14: what 3", war.overTrees(3), -1);
        Due.is("14: what -1", war.overTrees(-1), -1);
        for (int c = 0; c < 3; c++) {
            war.chair(0, c, 0, 50, 0);
            war.chair(1, c, 0, 50, c);
        }
        Due.is("14: all", war.overTrees(0), 9);
        Due.is("14: none by which more", war.overTrees(1), -2);
        war.column(7, 60);
        war.column(9, 51);
        Due.is("14: none", war.overTrees(0), 0);
        Due.is("14: the seventh", war.overTrees(1), 7);
        Due.is("14: six more", war.overTrees(2), 6);
        war.column(9, 60);
        Due.is("14: two in the way", war.overTrees(1), -2);
        Due.is("14: nothing by one", war.overTrees(2), 0);
        Due.is("14: nothing is cut", war.count(107), 60);
        war.column(9, 0);
        Due.orders(war, "<0I;>2I");
        Due.is("14: only those that sit", war.overTrees(2), 4);
        war.column(7, 199);
        war.column(3, 0);
        Due.is("14: still the seventh", war.overTrees(1), 7);
    }

    private static void hidden() {
        VerandaWar war = new VerandaWar();
        for (int what = 0; what < 3; what++) {
            Due.is("15: nobody", war.hidden(what), 0);
        }
        Due.is("15: what 3", war.hidden(3), -1);
        Due.is("15: what -1", war.hidden(-1), -1);
        war.chair(0, 2, 0, 50, 0);
        war.chair(1, 1, 0, 50, 0);
        war.chair(1, 4, 0, 50, 0);
        Due.is("15: one", war.hidden(0), 1);
        Due.is("15: who", war.hidden(1), 4);
        Due.is("15: none across", war.hidden(2), 0);
        war.chair(0, 5, 0, 50, 0);
        Due.is("15: two", war.hidden(0), 2);
        Due.is("15: the least bits", war.hidden(1), 0);
        Due.is("15: all across", war.hidden(2), 18);
        Due.orders(war, ">1I");
        Due.is("15: only one sits there", war.hidden(0), 1);
        Due.is("15: he", war.hidden(2), 16);
        Due.orders(war, ">1O;<2C9;<5C0");
        war.column(0, 51);
        Due.is("15: only the high one sees", war.hidden(1), 4);
        Due.is("15: one is enough", war.hidden(0), 1);
        Due.is("15: nobody goes really", war.count(13), 0);
    }

    private static void capture() {
        VerandaWar war = new VerandaWar();
        war.chair(0, 1, 0, 50, 8);
        war.chair(0, 2, 0, 50, 1);
        war.chair(1, 3, 0, 50, 2);
        war.chair(1, 4, 0, 50, 2);
        Due.orders(war, ">3I");
        for (int watch = 0; watch < 5; watch++) {
            Due.is("16: by day", war.capture(0, 1, 3), false);
            war.watches(1);
        }
        Due.is("16: who sits", war.capture(0, 1, 4), false);
        Due.is("16: from a gentleman that is in", war.capture(0, 1, 3), true);
        Due.is("16: one more", war.chairIs(0, 1, 3), 9);
        Due.is("16: one less", war.chairIs(1, 3, 3), 1);
        Due.is("16: he has 9", war.capture(0, 1, 3), false);
        Due.is("16: who is in does not", war.capture(1, 3, 2), false);
        Due.is("16: the other", war.capture(0, 2, 3), true);
        Due.is("16: none there", war.capture(0, 2, 3), false);
        Due.is("16: two now", war.chairIs(0, 2, 3), 2);
        Due.is("16: empty", war.capture(0, 0, 3), false);
        Due.is("16: empty across", war.capture(0, 2, 0), false);
        Due.is("16: side 2", war.capture(2, 2, 3), false);
        Due.is("16: side -1", war.capture(-1, 2, 3), false);
        Due.is("16: chair 8", war.capture(0, 8, 3), false);
        Due.is("16: chair 8 across", war.capture(0, 2, 8), false);
        Due.orders(war, "<1I");
        war.column(12, 199);
        Due.is("16: not seen", war.capture(1, 4, 1), false);
        war.column(12, 0);
        Due.is("16: side 1", war.capture(1, 4, 1), true);
        Due.is("16: three", war.chairIs(1, 4, 3), 3);
        Due.is("16: eight", war.chairIs(0, 1, 3), 8);
        Due.is("16: more than one in a night", war.capture(1, 4, 1), true);
        VerandaWar dinner = two();
        Due.orders(dinner, ">0C3");
        Due.law(dinner, "w10(s=1)");
        dinner.watches(5);
        Due.is("16: at dinner", dinner.chairIs(1, 0, 4), 1);
        Due.is("16: from one at dinner", dinner.capture(0, 0, 0), true);
        Due.is("16: not by one at dinner", dinner.capture(1, 0, 0), false);
    }

    private static void ridge() {
        VerandaWar war = new VerandaWar();
        Due.is("23: flat", war.ridge(0), 1);
        Due.is("23: flat row", war.ridge(1), 1);
        Due.is("23: what 2", war.ridge(2), -1);
        Due.is("23: what -1", war.ridge(-1), -1);
        int[] heights = {5, 5, 3, 4, 6, 9, 5, 7, 8, 9, 10};
        for (int i = 0; i < heights.length; i++) {
            war.column(i, heights[i]);
        }
        Due.is("23: higher than all ahead", war.ridge(0), 4);
        Due.is("23: rises", war.ridge(1), 7);
        for (int i = 0; i < 24; i++) {
            war.column(i, i + 1);
        }
        Due.is("23: all", war.ridge(0), 24);
        Due.is("23: all rise", war.ridge(1), 24);
        for (int i = 0; i < 24; i++) {
            war.column(i, 24 - i);
        }
        Due.is("23: all fall", war.ridge(0), 1);
        Due.is("23: none rises", war.ridge(1), 1);
    }
}
