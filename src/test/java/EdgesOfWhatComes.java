/** The terms from TRIED to A RIDGE, sentence by sentence. */
final class EdgesOfWhatComes {
    private EdgesOfWhatComes() {
    }

    static void all() {
        tried();
        when();
        toSee();
        overTheTrees();
        hidden();
        lemonade();
        lemonadeByState();
        glasses();
        march();
        ridge();
    }

    private static void tried() {
        Due.says("TRIED are n WATCHES by the DRAWS that will come (nothing is changed).");
        VerandaWar war = Wars.three();
        war.chair(1, 7, 0, 99, 0);
        Due.law(war, "b3+s(1=1);t2+c%2(1=1);w4(1=1)");
        for (int n : new int[] {1, 2, 5, 119, 120}) {
            VerandaWar twin = Wars.three();
            twin.chair(1, 7, 0, 99, 0);
            Due.law(twin, "b3+s(1=1);t2+c%2(1=1);w4(1=1)");
            int[] answers = new int[4];
            String before = Picture.of(war);
            for (int what = 0; what < 4; what++) {
                answers[what] = war.tried(n, what);
            }
            Due.is("nothing is changed", Picture.of(war).equals(before), true);
            int all = lemonadeOf(twin);
            Due.is("in by " + n, answers[0], twin.watches(n));
            Due.is("drunk by " + n, answers[2], all - lemonadeOf(twin));
            Due.is("lost by " + n, answers[3], twin.count(2));
        }
        war.whenIn(0, 1, 120);
        war.first(120, 0);
        war.loses(120, 0);
        war.lasts(0, 1, 60);
        Due.is("no watch went by", war.count(1), 0);
        Due.is("nothing was drawn", war.count(5), 1);
    }

    private static int lemonadeOf(VerandaWar war) {
        int all = 0;
        for (int place = 0; place < 16; place++) {
            all += Math.max(0, war.chairIs(place / 8, place % 8, 2));
        }
        return all;
    }

    private static void when() {
        Due.says("WHEN one goes IN: behind how many of n;");
        VerandaWar war = Wars.three();
        Due.is("behind two", war.whenIn(0, 6, 120), 2);
        Due.is("behind two of two", war.whenIn(0, 6, 2), 2);
        Due.is("not in one", war.whenIn(0, 6, 1), -2);
        Due.law(war, "x(h=0)");
        Due.is("behind the first", war.whenIn(0, 6, 1), 1);
        war.watches(1);
        Due.is("behind none", war.whenIn(0, 6, 1), 0);
        Due.says("who is the first of all (side 0 ahead, by CHAIRS), when;");
        war = Wars.three();
        Due.is("side 0 ahead", war.first(120, 0), 0);
        Due.is("its chair", war.first(120, 1), 6);
        Due.is("when", war.first(120, 2), 2);
        war.chair(0, 4, 0, 10, 0);
        Due.is("by chairs", war.first(120, 1), 4);
        war.chair(1, 7, 0, 5, 0);
        Due.is("sooner is ahead of side 0", war.first(120, 0), 1);
        Due.is("chair 7", war.first(120, 1), 7);
        Due.is("behind one", war.first(120, 2), 1);
        war.chair(1, 0, 0, 5, 0);
        Due.is("by chairs across", war.first(120, 1), 0);
        Due.says("who LOSES (bits), when.");
        String[] laws = {"x(s=0&h=3)", "x(s=1&h=3)", "x(h=3)", "x(1=2)"};
        int[] who = {1, 2, 3, 0};
        for (int i = 0; i < laws.length; i++) {
            VerandaWar sides = Wars.two();
            Due.law(sides, laws[i]);
            Due.is("who by " + laws[i], sides.loses(4, 0), who[i]);
            Due.is("when by " + laws[i], sides.loses(4, 1), who[i] == 0 ? -2 : 4);
            Due.is("none in three by " + laws[i], sides.loses(3, 0), 0);
        }
    }

    private static void toSee() {
        Due.says("TO SEE one across: how many CUSHIONS more one needs at least (9 in all at most).");
        // Side 1 is at 0; seen from column 0 (24 of 25 parts of side 0's eye) so many cushions more are needed.
        for (int has = 0; has < 10; has++) {
            for (int needs = has; needs < 11; needs++) {
                VerandaWar war = Wars.two();
                war.floor(0, 0);
                war.floor(1, 0);
                Due.orders(war, "<0C" + has);
                // A cushion more than needs - 1 lifts the line above the column.
                war.column(0, needs == 0 ? 0 : 24 * 5 * (needs - 1) / 25 + 1);
                int least = needs == 0 ? 1 : needs;
                int want = least > 9 ? -2 : Math.max(0, least - has);
                Due.is("has " + has + ", needs " + least, war.toSee(0, 0, 0), want);
            }
        }
        VerandaWar war = Wars.two();
        war.column(23, 72);
        Due.is("from side 1", war.toSee(1, 0, 0), 5);
        Due.is("from side 0", war.toSee(0, 0, 0), -2);
        Due.orders(war, ">0C4");
        Due.is("one more from side 1", war.toSee(1, 0, 0), 1);
        Due.is("nothing is changed", war.chairIs(1, 0, 3), 4);
        Due.orders(war, ">0C5");
        Due.is("he does", war.toSee(1, 0, 0), 0);
    }

    private static void overTheTrees() {
        Due.says("OVER THE TREES: how many twos that SIT (one of each side) see each other;");
        VerandaWar war = new VerandaWar();
        Due.is("nobody", war.overTrees(0), 0);
        for (int c = 0; c < 8; c++) {
            war.chair(0, c, 0, 50, c);
        }
        Due.is("nobody across", war.overTrees(0), 0);
        for (int c = 0; c < 8; c++) {
            war.chair(1, c, 0, 50, 7 - c);
        }
        Due.is("all", war.overTrees(0), 64);
        // The one without cushions sees those on six and seven, all others see all.
        war.column(0, 51);
        Due.is("seven with all, one with two", war.overTrees(0), 56 + 2);
        Due.orders(war, "<7I;>7I");
        Due.is("those that sit", war.overTrees(0), 42 + 2);
        Due.law(war, "w10(c=6)");
        war.watches(1);
        Due.is("not those at dinner", war.overTrees(0), 30 + 2);
        // Eyes at 99 and at 0: the line comes down from 95.04 to 3.96.
        war = Wars.two();
        war.floor(0, 99);
        war.floor(1, 0);
        war.column(0, 95);
        Due.is("from a high floor", war.overTrees(0), 1);
        war.column(23, 4);
        Due.is("to a low one", war.overTrees(0), 0);
        war.floor(0, 0);
        war.floor(1, 99);
        Due.is("from a low one", war.overTrees(0), 0);
        war.column(0, 3);
        war.column(23, 95);
        Due.is("to a high one", war.overTrees(0), 1);
        Due.says("the COLUMN by cutting which to 0 most twos more would (of like ones the lowest), how many more.");
        war = Wars.two();
        Due.is("none", war.overTrees(1), -2);
        Due.is("none more", war.overTrees(2), 0);
        war.column(9, 50);
        Due.is("by the only one", war.overTrees(1), 9);
        Due.is("one more", war.overTrees(2), 1);
        war.column(17, 199);
        Due.is("by none alone", war.overTrees(1), -2);
        Due.is("no more", war.overTrees(2), 0);
        // High at column 0 is in the way of who is low on side 0, high at column 23 of who is low on side 1.
        war = new VerandaWar();
        war.chair(0, 0, 0, 50, 0);
        war.chair(0, 1, 0, 50, 9);
        war.chair(1, 0, 0, 50, 0);
        war.chair(1, 1, 0, 50, 9);
        war.column(0, 60);
        war.column(23, 60);
        Due.is("the two high ones", war.overTrees(0), 1);
        Due.is("of like ones the lowest", war.overTrees(1), 0);
        Due.is("one more by it", war.overTrees(2), 1);
        war.chair(1, 2, 0, 50, 8);
        Due.is("most by column 0", war.overTrees(1), 0);
        Due.is("two more by it", war.overTrees(2), 2);
        Due.orders(war, ">2C0");
        Due.is("most by column 23", war.overTrees(1), 23);
        Due.is("two more by that", war.overTrees(2), 2);
        Due.is("nothing is cut", war.count(123), 60);
        // A column of 1 is cut to 0 and not less.
        VerandaWar low = Wars.two();
        low.floor(0, 0);
        low.floor(1, 1);
        low.column(9, 1);
        Due.is("a column of 1", low.overTrees(1), 9);
        Due.is("one more by cutting it", low.overTrees(2), 1);
        // Cut to 0, not away: eyes at 0 see nobody over it.
        war.floor(0, 0);
        war.floor(1, 0);
        Due.orders(war, "<0C0;<1C0;>0C0;>1C0;>2C0");
        Due.is("0 is not lower than 0", war.overTrees(1), -2);
    }

    private static void hidden() {
        Due.says("HIDDEN: the fewest of both sides that SIT that must go IN so that of those left nobody sees anybody across;");
        VerandaWar war = new VerandaWar();
        Due.is("nobody there", war.hidden(0), 0);
        for (int c = 0; c < 8; c++) {
            war.chair(0, c, 0, 50, 0);
        }
        Due.is("nobody across", war.hidden(0), 0);
        for (int c = 0; c < 8; c++) {
            war.chair(1, c, 0, 50, 0);
            Due.is("all see all, across " + (c + 1), war.hidden(0), c + 1);
        }
        Due.orders(war, "<0I;<1I;<2I;>7I");
        Due.is("five against seven", war.hidden(0), 5);
        war.column(11, 50);
        Due.is("nobody sees anybody", war.hidden(0), 0);
        Due.orders(war, "<3C1");
        Due.is("one sees all", war.hidden(0), 1);
        Due.orders(war, ">0C1");
        Due.is("one of each sees all", war.hidden(0), 2);
        Due.is("both", war.hidden(1), 8);
        Due.is("both of them", war.hidden(2), 1);
        Due.orders(war, "<3I");
        Due.is("who is in hides himself", war.hidden(0), 1);
        Due.says("of like ones the least bits of side 0, then all on side 1 that need to.");
        war = new VerandaWar();
        war.chair(0, 3, 0, 50, 0);
        war.chair(1, 6, 0, 50, 0);
        Due.is("one", war.hidden(0), 1);
        Due.is("nobody of side 0", war.hidden(1), 0);
        Due.is("the one of side 1", war.hidden(2), 64);
        war.chair(1, 1, 0, 50, 0);
        Due.is("two across: the one here", war.hidden(1), 8);
        Due.is("nobody across", war.hidden(2), 0);
        war.chair(0, 0, 0, 50, 0);
        Due.is("two and two: nobody here", war.hidden(1), 0);
        Due.is("both across", war.hidden(2), 66);
        war.chair(1, 2, 0, 50, 0);
        Due.is("two and three: both here", war.hidden(1), 9);
        Due.is("nobody needs to across", war.hidden(2), 0);
        // The high one here sees three, the low one the high one across: both here would do as well.
        war = new VerandaWar();
        war.column(11, 60);
        war.chair(0, 2, 0, 50, 9);
        war.chair(0, 5, 0, 50, 0);
        war.chair(1, 1, 0, 50, 9);
        war.chair(1, 3, 0, 50, 0);
        war.chair(1, 4, 0, 50, 0);
        Due.is("two", war.hidden(0), 2);
        Due.is("the high one here", war.hidden(1), 4);
        Due.is("the high one across", war.hidden(2), 2);
    }

    private static void lemonade() {
        Due.says("LEMONADE for n WATCHES (1 to 60): how much more a GENTLEMAN that SITS needs so that it would last");
        VerandaWar war = Wars.three();
        Due.is("n 0", war.lasts(0, 6, 0), -1);
        Due.is("n 61", war.lasts(0, 6, 61), -1);
        Due.is("n 1", war.lasts(0, 6, 1), 0);
        Due.is("n 2", war.lasts(0, 6, 2), 1);
        Due.is("n 3", war.lasts(0, 6, 3), 6);
        Due.law(war, "t1(1=1)");
        Due.is("n 60", war.lasts(0, 6, 60), 51);
        Due.orders(war, "<6I");
        Due.is("who is in", war.lasts(0, 6, 1), -1);
        Due.law(war, "w10(1=1)");
        war.watches(1);
        Due.is("who is at dinner", war.lasts(0, 1, 1), -1);
        Due.is("an empty chair", war.lasts(0, 0, 1), -1);
    }

    private static void lemonadeByState() {
        Due.says("(LEMONADE stays above 0 behind each; t by his state as it would be, l as it would be, b too, no x, no DINNER, "
            + "all others as now, WATCHES, DAYS going on):");
        VerandaWar war = Wars.three();
        Due.law(war, "t10(h=0)");
        Due.is("0 behind the first is not above 0", war.lasts(0, 6, 1), 1);
        Due.law(war, "t9(h=0)");
        Due.is("1 is", war.lasts(0, 6, 6), 0);
        Due.law(war, "t1+a(1=1);b1(1=1)");
        Due.is("b too, asked as it would be", war.lasts(0, 6, 4), 1);
        Due.law(war, "t1+a/10(1=1);b60(1=1)");
        Due.is("boredom is 99 at most", war.lasts(0, 6, 3), 9);
        Due.law(war, "t99(l>20);t1(1=1)");
        Due.is("l as it would be", war.lasts(0, 6, 15), 6);
        Due.is("20 last", war.lasts(0, 6, 19), 10);
        Due.is("21 would not", war.lasts(0, 6, 20), -2);
        Due.law(war, "t5(1=1);x(1=1);w10(1=1)");
        Due.is("no x, no dinner", war.lasts(0, 6, 3), 6);
        Due.law(war, "t2*n+o(1=1);x(c=1)");
        Due.is("all others as now", war.lasts(0, 6, 4), 11);
        Due.law(war, "t1+h(1=1)");
        Due.is("watches go on", war.lasts(0, 1, 6), 0);
        Due.is("to 0 again", war.lasts(0, 1, 12), 13);
        Due.law(war, "t5(d=1);t1(1=1)");
        Due.is("days go on", war.lasts(0, 1, 12), 7);
        Due.is("to the next", war.lasts(0, 1, 18), 13);
        Due.law(war, "w10(c=1)");
        war.watches(1);
        Due.law(war, "t2*n+o(1=1)");
        Due.is("who is at dinner stays there", war.lasts(0, 6, 4), 3);
        Due.law(war, "t2+3*v(1=1)");
        Due.is("whom he sees", war.lasts(0, 6, 4), 11);
        war.column(11, 50);
        Due.is("whom he sees now", war.lasts(0, 6, 4), 0);
        war.column(11, 49);
        Due.is("and again", war.lasts(0, 6, 4), 11);
        war.column(11, 55);
        Due.is("nobody", war.lasts(0, 6, 4), 0);
        war.chair(1, 2, 0, 10, 9);
        Due.is("somebody higher", war.lasts(0, 6, 4), 11);
        Due.says("0 to 99, more: can't.");
        war = Wars.three();
        Due.law(war, "t1(1=1)");
        Due.is("0", war.lasts(0, 1, 29), 0);
        Due.is("1", war.lasts(0, 1, 30), 1);
        Due.law(war, "t32(1=1)");
        Due.is("99", war.lasts(0, 1, 4), 99);
        war.chair(0, 1, 0, 29, 0);
        Due.is("100", war.lasts(0, 1, 4), -2);
        war.chair(0, 1, 0, 99, 0);
        Due.law(war, "t49(1=1)");
        Due.is("98 more than 99", war.lasts(0, 1, 4), 98);
        Due.is("never", war.lasts(0, 1, 60), -2);
    }

    /** Seats those in chairs by their digits, and tells what is due of their glasses. */
    private static void row(String here, String across, int twos, int apart, int... whom) {
        rowOf(Wars.seats(here, across), here + " to " + across + ", ", twos, apart, whom);
    }

    private static void rowOf(VerandaWar war, String name, int twos, int apart, int... whom) {
        Due.is(name + "twos", war.glasses(101), twos);
        Due.is(name + "apart", war.glasses(100), apart);
        for (int c = 0; c < 8; c++) {
            Due.is(name + "whom " + c, war.glasses(c), whom[c]);
        }
    }

    private static void glasses() {
        Due.says("GLASSES: those that SIT on both sides are given to each other in twos, as many as can be, so that CHAIRS apart, "
            + "added up, are fewest;");
        row("", "", 0, 0, -2, -2, -2, -2, -2, -2, -2, -2);
        row("04", "", 0, 0, -2, -2, -2, -2, -2, -2, -2, -2);
        row("", "04", 0, 0, -2, -2, -2, -2, -2, -2, -2, -2);
        row("0", "7", 1, 7, 7, -2, -2, -2, -2, -2, -2, -2);
        row("7", "0", 1, 7, -2, -2, -2, -2, -2, -2, -2, 0);
        row("01234567", "01234567", 8, 0, 0, 1, 2, 3, 4, 5, 6, 7);
        row("01234567", "5", 1, 0, -2, -2, -2, -2, -2, 5, -2, -2);
        row("5", "01234567", 1, 0, -2, -2, -2, -2, -2, 5, -2, -2);
        row("07", "67", 2, 6, 6, -2, -2, -2, -2, -2, -2, 7);
        row("27", "05", 2, 4, -2, -2, 0, -2, -2, -2, -2, 5);
        row("34", "0347", 2, 0, -2, -2, -2, 3, 4, -2, -2, -2);
        row("0347", "34", 2, 0, -2, -2, -2, 3, 4, -2, -2, -2);
        VerandaWar war = new VerandaWar();
        for (int c = 0; c < 3; c++) {
            war.chair(0, c, 0, 9, 0);
            war.chair(1, c + 2, 0, 9, 0);
        }
        Due.law(war, "w10(c=0);x(s=1&c=2)");
        war.watches(1);
        rowOf(war, "those that sit, ", 2, 4, -2, 3, 4, -2, -2, -2, -2, -2);
        Due.says("of like ones the least row (by CHAIRS of side 0 whom: a CHAIR, nobody counts as 8).");
        row("01", "23", 2, 4, 2, 3, -2, -2, -2, -2, -2, -2);
        row("23", "01", 2, 4, -2, -2, 0, 1, -2, -2, -2, -2);
        row("3", "24", 1, 1, -2, -2, -2, 2, -2, -2, -2, -2);
        row("24", "3", 1, 1, -2, -2, 3, -2, -2, -2, -2, -2);
        row("024", "3", 1, 1, -2, -2, 3, -2, -2, -2, -2, -2);
        row("06", "3", 1, 3, 3, -2, -2, -2, -2, -2, -2, -2);
        row("3", "06", 1, 3, -2, -2, -2, 0, -2, -2, -2, -2);
        row("012", "345", 3, 9, 3, 4, 5, -2, -2, -2, -2, -2);
        row("135", "24", 2, 2, -2, 2, -2, 4, -2, -2, -2, -2);
        row("24", "135", 2, 2, -2, -2, 1, -2, 3, -2, -2, -2);
    }

    private static VerandaWar ranks(int side, String ranks) {
        VerandaWar war = new VerandaWar();
        for (int c = 0; c < ranks.length(); c++) {
            if (ranks.charAt(c) != '.') {
                war.chair(side, c, ranks.charAt(c) - '0', 50, 0);
            }
        }
        return war;
    }

    private static void march() {
        Due.says("MARCH: how many changes of two that are side by side among the GENTLEMEN (not IN) of a side, empty CHAIRS passed "
            + "over, so that RANKS never fall along the rail.");
        String[] rails = {"", "5", ".......5", "55555555", "01234567", "98765432", "10", "9......0", ".1.0.1.0", "01234560"};
        int[] changes = {0, 0, 0, 0, 0, 28, 1, 1, 3, 6};
        for (int i = 0; i < rails.length; i++) {
            for (int side = 0; side < 2; side++) {
                VerandaWar war = ranks(side, rails[i]);
                Due.is(rails[i], war.march(side), changes[i]);
                Due.is(rails[i] + ", across", war.march(1 - side), 0);
            }
        }
        VerandaWar war = ranks(1, "98765432");
        Due.orders(war, ">0I;>7I");
        Due.is("who is in does not march", war.march(1), 15);
        Due.law(war, "w10(1=1)");
        war.watches(1);
        Due.is("who is at dinner does", war.march(1), 15);
        Due.orders(war, ">1I;>2I;>3I;>4I;>5I");
        Due.is("one is left", war.march(1), 0);
        Due.orders(war, ">6I");
        Due.is("nobody is left", war.march(1), 0);
    }

    private static VerandaWar heights(int... heights) {
        VerandaWar war = new VerandaWar();
        for (int i = 0; i < heights.length; i++) {
            war.column(i, heights[i]);
        }
        return war;
    }

    private static void ridge() {
        Due.says("A RIDGE: COLUMNS from the left that are higher than all ahead; how many; the longest row of COLUMNS, not side by "
            + "side perhaps, that rise.");
        int[][] valleys = {{}, {199}, {0, 199}, {5, 5, 5}, {5, 4, 6}, {3, 1, 2, 4, 0, 9, 5, 6, 7}, {199, 198, 197}};
        int[] crests = {1, 1, 2, 1, 2, 3, 1};
        int[] rises = {1, 1, 2, 1, 2, 6, 1};
        for (int i = 0; i < valleys.length; i++) {
            VerandaWar war = heights(valleys[i]);
            Due.is("crests of " + i, war.ridge(0), crests[i]);
            Due.is("rise of " + i, war.ridge(1), rises[i]);
        }
        int[] rising = new int[24];
        int[] falling = new int[24];
        for (int i = 0; i < 24; i++) {
            rising[i] = i;
            falling[i] = 199 - i;
        }
        Due.is("all", heights(rising).ridge(0), 24);
        Due.is("all rise", heights(rising).ridge(1), 24);
        Due.is("the first one", heights(falling).ridge(0), 1);
        Due.is("any one", heights(falling).ridge(1), 1);
        rising[23] = 22;
        Due.is("as high is not higher", heights(rising).ridge(0), 23);
        Due.is("as high does not rise", heights(rising).ridge(1), 23);
    }
}
