/** Promises 18 to 35, sentence by sentence. */
final class EdgesOfLaterPromises {
    private EdgesOfLaterPromises() {
    }

    static void all() {
        first();
        loses();
        lasts();
        glasses();
        marchAndRidge();
        answered();
        inCommon();
        beatAndLamps();
        bridge();
        parrots();
        ants();
        seed();
        keepAndUndo();
        check();
        count();
        countOfSides();
    }

    private static void first() {
        Due.says("THE FIRST that goes IN in n WATCHES (1 to 120), what 0 the side, 1 the CHAIR, 2 behind how many; -2: nobody;");
        VerandaWar war = Wars.two();
        war.chair(1, 7, 0, 60, 0);
        Due.law(war, "x(c=7&d=19&h=5)");
        int[] want = {1, 7, 120};
        for (int what = 0; what < 3; what++) {
            Due.is("of 120, what " + what, war.first(120, what), want[what]);
            Due.is("of 119, what " + what, war.first(119, what), -2);
        }
        Due.law(war, "x(1=1)");
        int[] all = {0, 0, 1};
        for (int what = 0; what < 3; what++) {
            Due.is("all at once, what " + what, war.first(1, what), all[what]);
            Due.is("nobody there, what " + what, new VerandaWar().first(120, what), -2);
        }
        war.watches(1);
        Due.is("all are in", war.first(120, 0), -2);
        Due.says("NONE: no such ones.");
        VerandaWar some = Wars.two();
        Due.noOther("n", n -> some.first(n, 0), Due.range(1, 120));
        Due.noOther("what", what -> some.first(1, what), 0, 1, 2);
    }

    private static void loses() {
        Due.says("Who LOSES in n WATCHES (1 to 120), what 0 who (bits; 0: none; who has LOST, too), 1 behind how many (0: it is so; -2: "
            + "none);");
        VerandaWar war = Wars.two();
        Due.law(war, "x(s=1&d=19&h=5)");
        Due.is("side 1", war.loses(120, 0), 2);
        Due.is("behind 120", war.loses(120, 1), 120);
        Due.is("none in 119", war.loses(119, 0), 0);
        Due.is("none in 119, when", war.loses(119, 1), -2);
        Due.law(war, "x(1=1)");
        Due.is("both", war.loses(1, 0), 3);
        Due.is("behind one", war.loses(1, 1), 1);
        war.watches(1);
        Due.is("both have lost", war.loses(1, 0), 3);
        Due.is("it is so", war.loses(120, 1), 0);
        war.keep();
        war.chair(0, 0, 1, 50, 0);
        Due.is("forgotten: now side 0", war.loses(1, 0), 1);
        Due.is("behind one again", war.loses(120, 1), 1);
        VerandaWar untried = Wars.two();
        Due.law(untried, "x(s=1)");
        untried.watches(1);
        Due.is("who has lost", untried.loses(1, 0), 2);
        Due.is("it is so, too", untried.loses(1, 1), 0);
        Due.says("NONE: no such ones.");
        VerandaWar some = Wars.two();
        Due.noOther("n", n -> some.loses(n, 0), Due.range(1, 120));
        Due.noOther("what", what -> some.loses(1, what), 0, 1);
        Due.law(some, "x(1=1)");
        some.watches(1);
        Due.noOther("n, lost", n -> some.loses(n, 1), Due.range(1, 120));
        Due.noOther("what, lost", what -> some.loses(1, what), 0, 1);
    }

    private static void lasts() {
        Due.says("LEMONADE more for a GENTLEMAN that SITS, n WATCHES (1 to 60); -2: it can't last;");
        VerandaWar war = Wars.two();
        Due.law(war, "t1(1=1)");
        Due.is("49", war.lasts(0, 0, 49), 0);
        Due.is("50", war.lasts(0, 0, 50), 1);
        Due.is("60", war.lasts(0, 0, 60), 11);
        Due.is("60 of side 1", war.lasts(1, 0, 60), 1);
        Due.law(war, "t50(1=1)");
        Due.is("1", war.lasts(0, 0, 1), 1);
        Due.is("2", war.lasts(0, 0, 2), 51);
        Due.is("3", war.lasts(0, 0, 3), -2);
        Due.is("nothing is changed", war.chairIs(0, 0, 2), 50);
        Due.says("NONE: no such ones.");
        VerandaWar some = Wars.two();
        Due.noOther("n", n -> some.lasts(0, 0, n), Due.range(1, 60));
        Due.noOther("side", side -> some.lasts(side, 0, 1), 0, 1);
        Due.noOther("chair", c -> some.lasts(0, c, 1), 0);
        Due.orders(some, "<0I");
        Due.is("in", some.lasts(0, 0, 1), -1);
        Due.law(some, "w10(1=1)");
        some.watches(1);
        Due.is("at dinner", some.lasts(1, 0, 1), -1);
    }

    private static void glasses() {
        Due.says("GLASSES, what 100 how far apart in all, 101 how many twos, else to whom the one in CHAIR what (0 to 7) of side 0 gives "
            + "his; -2 (of CHAIRS): to nobody;");
        VerandaWar war = new VerandaWar();
        war.chair(0, 0, 0, 9, 0);
        war.chair(0, 7, 0, 9, 0);
        war.chair(1, 5, 0, 9, 0);
        Due.is("apart", war.glasses(100), 2);
        Due.is("twos", war.glasses(101), 1);
        for (int c = 0; c < 8; c++) {
            Due.is("chair " + c, war.glasses(c), c == 7 ? 5 : -2);
        }
        war.chair(1, 0, 0, 9, 0);
        Due.is("apart still", war.glasses(100), 2);
        Due.is("two twos", war.glasses(101), 2);
        Due.is("chair 0 to 0", war.glasses(0), 0);
        VerandaWar empty = new VerandaWar();
        Due.is("nobody apart", empty.glasses(100), 0);
        Due.is("no twos", empty.glasses(101), 0);
        Due.says("NONE: no such what.");
        Due.noOther("what", what -> war.glasses(what), 0, 1, 2, 3, 4, 5, 6, 7, 100, 101);
    }

    private static void marchAndRidge() {
        Due.says("MARCH of a side: changes; NONE: no such side.");
        VerandaWar war = new VerandaWar();
        war.chair(0, 0, 9, 9, 0);
        war.chair(0, 7, 0, 9, 0);
        war.chair(1, 0, 0, 9, 0);
        war.chair(1, 7, 9, 9, 0);
        Due.is("side 0", war.march(0), 1);
        Due.is("side 1", war.march(1), 0);
        Due.noOther("side", side -> war.march(side), 0, 1);
        Due.says("A RIDGE, what 0 COLUMNS higher than all ahead (the first one, too), 1 the longest row that rises;");
        Due.is("the first one, of 0", war.ridge(0), 1);
        Due.is("any one", war.ridge(1), 1);
        war.column(23, 1);
        Due.is("the last one, too", war.ridge(0), 2);
        Due.is("any one and the last", war.ridge(1), 2);
        war.column(0, 1);
        Due.is("as high is not higher", war.ridge(0), 1);
        Due.is("still two", war.ridge(1), 2);
        Due.says("NONE: no such what.");
        Due.noOther("what", what -> war.ridge(what), 0, 1);
    }

    private static void answered() {
        Due.says("ANSWERED: the place; -2: all is answered (none at all, too).");
        VerandaWar war = new VerandaWar();
        Due.is("none at all", war.answered(), -2);
        Due.signals(war, 0, "ab");
        Due.is("at once", war.answered(), 0);
        Due.signals(war, 1, "a");
        Due.is("at the end", war.answered(), 1);
        Due.signals(war, 1, "a2b");
        Due.is("beyond the end", war.answered(), 2);
        Due.signals(war, 1, "(ab)");
        Due.is("all", war.answered(), -2);
    }

    private static void inCommon() {
        Due.says("IN COMMON, what 100 how many, else the LAMP at place what (0 dark, 1 to 5); -4: no such place;");
        VerandaWar war = new VerandaWar();
        Due.is("none", war.inCommon(100), 0);
        Due.is("no place 0", war.inCommon(0), -4);
        Due.is("no place 59", war.inCommon(59), -4);
        Due.signals(war, 0, ".abcde");
        Due.signals(war, 1, ".abcde");
        Due.is("six", war.inCommon(100), 6);
        for (int place = 0; place < 60; place++) {
            Due.is("place " + place, war.inCommon(place), place < 6 ? place : -4);
        }
        Due.signals(war, 0, "6(9e)6.");
        Due.signals(war, 1, "6(9e)6.");
        Due.is("sixty", war.inCommon(100), 60);
        Due.is("at 53", war.inCommon(53), 5);
        Due.is("at 54", war.inCommon(54), 0);
        Due.is("at 59", war.inCommon(59), 0);
        Due.says("NONE: no such what (places 0 to 59).");
        int[] good = Due.range(0, 60);
        good[60] = 100;
        Due.noOther("what", what -> war.inCommon(what), good);
        Due.noOther("what, no signals", what -> new VerandaWar().inCommon(what), good);
    }

    private static void beatAndLamps() {
        Due.says("BEAT of a side: how long the row is; -2: no SIGNALS;");
        VerandaWar war = new VerandaWar();
        Due.is("none of side 0", war.beat(0), -2);
        Due.is("none of side 1", war.beat(1), -2);
        Due.signals(war, 1, "abca");
        Due.is("still none of side 0", war.beat(0), -2);
        Due.is("three", war.beat(1), 3);
        Due.says("NONE: no such side.");
        Due.noOther("side", side -> war.beat(side), 0, 1);
        Due.says("LAMPS of a side: how often a sign (0 dark, 1 to 5) is there;");
        Due.signals(war, 0, ".2a3b4c5d6e");
        for (int sign = 0; sign < 6; sign++) {
            Due.is("sign " + sign, war.lamps(0, sign), sign + 1);
            Due.is("sign across " + sign, war.lamps(1, sign), sign == 1 ? 2 : sign == 2 || sign == 3 ? 1 : 0);
        }
        Due.says("NONE: no such ones.");
        Due.noOther("side", side -> war.lamps(side, 0), 0, 1);
        Due.noOther("sign", sign -> war.lamps(0, sign), Due.range(0, 5));
    }

    private static void bridge() {
        Due.says("BRIDGE by the first 4 n bytes of the tape (n 1 to 3 cards of player 0, then of 1, 2, 3; empty then), trumps (0 to 4), who "
            + "leads (0 to 3), what 0 tricks, 1 the card;");
        int[] cards = {12, 13, 26, 39, 11, 24, 37, 50, 10, 23, 36, 49};
        for (int n = 1; n <= 3; n++) {
            for (int leads = 0; leads < 4; leads++) {
                VerandaWar war = new VerandaWar();
                Due.feed(war, cards);
                int led = war.bridge(n, 4, leads, 1);
                Due.is("empty then", war.count(4), 0);
                boolean own = false;
                for (int i = leads * n; i < leads * n + n; i++) {
                    own |= cards[i] == led;
                }
                Due.is("the card is of who leads, " + n + ", " + leads, own, true);
            }
        }
        VerandaWar again = new VerandaWar();
        for (int n : new int[] {3, 1, 2, 1, 3}) {
            Due.feed(again, cards);
            Due.is("another game of " + n, again.bridge(n, 4, 0, 1), play(cards, n, 4, 0, 1));
            Due.feed(again, cards);
            Due.is("its tricks", again.bridge(n, 4, 3, 0), play(cards, n, 4, 3, 0));
        }
        int[] tricks = {1, 0, 1, 0};
        for (int trumps = 0; trumps < 5; trumps++) {
            for (int leads = 0; leads < 4; leads++) {
                VerandaWar war = new VerandaWar();
                Due.feed(war, cards);
                int want = trumps == 4 ? tricks[leads] : tricks[trumps];
                Due.is("each of his own suit, trumps " + trumps + ", leads " + leads, war.bridge(1, trumps, leads, 0), want);
            }
        }
        Due.says("-2: a card above 51, twice;");
        for (int n = 1; n <= 3; n++) {
            for (int i = 0; i < 4 * n; i++) {
                int[] bad = cards.clone();
                bad[i] = 52;
                refusedCards(n, bad, -2);
                bad[i] = 255;
                refusedCards(n, bad, -2);
                bad[i] = cards[(i + 1) % (4 * n)];
                refusedCards(n, bad, -2);
                bad[i] = 51;
                refusedCards(n, bad, 0);
            }
            for (int i = 4 * n; i < 12; i++) {
                int[] bad = cards.clone();
                bad[i] = 255;
                refusedCards(n, bad, 0);
            }
        }
        Due.says("NONE: no such ones, it has not so many (the tape stays).");
        VerandaWar war = new VerandaWar();
        Due.noOther("n", n -> play(cards, n, 0, 0, 0), 1, 2, 3);
        Due.noOther("trumps", trumps -> play(cards, 1, trumps, 0, 0), Due.range(0, 4));
        Due.noOther("leads", leads -> play(cards, 1, 0, leads, 0), Due.range(0, 3));
        Due.noOther("what", what -> play(cards, 1, 0, 0, what), 0, 1);
        for (int n = 1; n <= 3; n++) {
            Due.is("it has not so many, " + n, war.bridge(n, 0, 0, 0), -1);
        }
        Due.feed(war, 12, 11, 10, 9);
        war.bridge(1, 5, 0, 0);
        Due.is("the tape has what it had", war.bridge(1, 4, 0, 1), 12);
    }

    private static int play(int[] cards, int n, int trumps, int leads, int what) {
        VerandaWar war = new VerandaWar();
        Due.feed(war, cards);
        int answer = war.bridge(n, trumps, leads, what);
        Due.is("the tape", war.count(4), answer == -1 ? 20 : 0);
        return answer;
    }

    /** That cards answer -2, or (0) do not; the tape is empty either way. */
    private static void refusedCards(int n, int[] cards, int want) {
        for (int what = 0; what < 2; what++) {
            VerandaWar war = new VerandaWar();
            Due.feed(war, cards);
            Due.is("refused", war.bridge(n, 4, 0, what) == -2, want == -2);
            Due.is("empty then", war.count(4), 0);
        }
    }

    private static int birds(int[] tenths, int n, int many, int what) {
        VerandaWar war = new VerandaWar();
        Due.feed(war, tenths);
        int answer = war.parrots(n, many, what);
        Due.is("the tape", war.count(4), answer == -1 ? 20 : 0);
        return answer;
    }

    private static void parrots() {
        Due.says("PARROTS by the first n bytes of the tape (tenths; n 1 to 8; empty then), so many (0 to 8), what 0 above, 1 below the line "
            + "(at least so many), 2, 3 likewise (exactly so many), without a common divisor;");
        int[] halves = {5, 5, 5, 5, 5, 5, 5, 5, 11};
        int[] ways = {1, 8, 28, 56, 70, 56, 28, 8, 1};
        for (int many = 0; many < 9; many++) {
            int least = 0;
            for (int k = many; k < 9; k++) {
                least += ways[k];
            }
            int divisor = java.math.BigInteger.valueOf(least).gcd(java.math.BigInteger.valueOf(256)).intValue();
            Due.is("at least " + many, birds(halves, 8, many, 0), least / divisor);
            Due.is("at least " + many + ", below", birds(halves, 8, many, 1), 256 / divisor);
            int own = java.math.BigInteger.valueOf(ways[many]).gcd(java.math.BigInteger.valueOf(256)).intValue();
            Due.is("exactly " + many, birds(halves, 8, many, 2), ways[many] / own);
            Due.is("exactly " + many + ", below", birds(halves, 8, many, 3), 256 / own);
        }
        for (int n = 1; n < 9; n++) {
            Due.is("exactly all of " + n, birds(halves, n, n, 3), 1 << n);
            if (n < 8) {
                Due.is("more than " + n, birds(halves, n, n + 1, 0), 0);
                Due.is("more than " + n + ", below", birds(halves, n, n + 1, 1), 1);
                Due.is("exactly eight of " + n, birds(halves, n, 8, 2), 0);
                Due.is("exactly eight of " + n + ", below", birds(halves, n, 8, 3), 1);
            }
        }
        VerandaWar again = new VerandaWar();
        for (int n : new int[] {8, 1, 4, 2, 8}) {
            Due.feed(again, 7, 7, 7, 7, 7, 7, 7, 7);
            again.ants(3, 0);
            Due.feed(again, halves);
            Due.is("behind white ants, " + n, again.parrots(n, 1, 2), birds(halves, n, 1, 2));
            Due.feed(again, halves);
            Due.is("once more, " + n, again.parrots(n, n, 0), 1);
        }
        int[] tenths = {0, 1, 2, 3, 4, 5, 6, 7, 8, 9, 10};
        int[] above = {0, 1, 1, 3, 2, 1, 3, 7, 4, 9, 1};
        int[] below = {1, 10, 5, 10, 5, 2, 5, 10, 5, 10, 1};
        for (int tenth : tenths) {
            Due.is("tenths " + tenth, birds(new int[] {tenth}, 1, 1, 0), above[tenth]);
            Due.is("tenths " + tenth + ", below", birds(new int[] {tenth}, 1, 1, 1), below[tenth]);
        }
        Due.says("-2: tenths above 10;");
        for (int n = 1; n < 9; n++) {
            for (int i = 0; i < 8; i++) {
                for (int tenth : new int[] {11, 128, 255}) {
                    int[] bad = halves.clone();
                    bad[i] = tenth;
                    Due.is(tenth + " at " + i + " of " + n, birds(bad, n, 0, 0), i < n ? -2 : 1);
                }
            }
        }
        Due.says("NONE: no such ones, it has not so many (the tape stays).");
        Due.noOther("n", n -> birds(halves, n, 0, 0), Due.range(1, 8));
        Due.noOther("many", many -> birds(halves, 1, many, 1), Due.range(0, 8));
        Due.noOther("what", what -> birds(halves, 1, 0, what), Due.range(0, 3));
        VerandaWar war = new VerandaWar();
        Due.is("it has not so many", war.parrots(1, 0, 0), -1);
        Due.feed(war, 3);
        war.parrots(1, 0, 4);
        Due.is("the tape has what it had", war.parrots(1, 1, 0), 3);
    }

    private static int eat(int[] wood, int from, int what) {
        VerandaWar war = new VerandaWar();
        Due.feed(war, wood);
        int answer = war.ants(from, what);
        Due.is("the tape", war.count(4), answer == -1 ? 20 : 0);
        return answer;
    }

    private static void ants() {
        Due.says("WHITE ANTS by the first 8 bytes of the tape (wood of CHAIRS; empty then) from a CHAIR, what 8 which is eaten last, else "
            + "behind how many WATCHES CHAIR what (0 to 7) is;");
        int[] wood = {1, 2, 4, 8, 16, 32, 64, 99, 255};
        for (int from = 0; from < 8; from++) {
            for (int c = 0; c < 8; c++) {
                int sum = 0;
                for (int i = Math.min(from, c); i <= Math.max(from, c); i++) {
                    sum += wood[i];
                }
                Due.is("from " + from + ", chair " + c, eat(wood, from, c), sum);
            }
            Due.is("from " + from + ", the last", eat(wood, from, 8), from == 7 ? 0 : 7);
        }
        VerandaWar again = new VerandaWar();
        for (int from = 0; from < 8; from++) {
            Due.feed(again, 9, 9, 9, 9, 9, 9, 9, 9);
            again.parrots(8, 8, 0);
            Due.feed(again, wood);
            Due.is("behind parrots, from " + from, again.ants(from, 8), from == 7 ? 0 : 7);
        }
        Due.says("-2: wood 0, above 99;");
        for (int i = 0; i < 8; i++) {
            for (int amount : new int[] {0, 100, 128, 255}) {
                int[] bad = wood.clone();
                bad[i] = amount;
                for (int what = 0; what < 9; what++) {
                    Due.is(amount + " in " + i + ", what " + what, eat(bad, 0, what), -2);
                }
            }
        }
        Due.says("NONE: no such ones, it has not so many (the tape stays).");
        Due.noOther("from", from -> eat(wood, from, 0), Due.range(0, 7));
        Due.noOther("what", what -> eat(wood, 0, what), Due.range(0, 8));
        VerandaWar war = new VerandaWar();
        Due.is("it has not so many", war.ants(0, 0), -1);
        Due.feed(war, wood);
        war.ants(8, 0);
        war.ants(0, 9);
        Due.is("the tape has what it had", war.ants(0, 2), 7);
    }

    private static void seed() {
        Due.says("THE SEED (0 to 65535; X, too): true;");
        VerandaWar war = Wars.two();
        for (int x : new int[] {0, 1, 32768, 65534, 65535}) {
            Due.is("seed " + x, war.seed(x), true);
            Due.is("X " + x, war.count(5), x);
        }
        war.seed(0);
        war.watches(1);
        Due.is("the draws go on from it", war.count(5), (25173L * 13849 + 13849) % 65536);
        Due.says("false: no such number.");
        Due.noOther("seed", x -> Due.refused(new VerandaWar().seed(x)), Due.range(0, 699));
        war.seed(7);
        for (int x : new int[] {-1, 65536, 65537, 131072, Integer.MIN_VALUE, Integer.MAX_VALUE}) {
            Due.is("seed " + x, war.seed(x), false);
            Due.is("X stays", war.count(5), 7);
        }
    }

    private static void keepAndUndo() {
        Due.says("KEPT: THE DAY.");
        VerandaWar war = Wars.two();
        Due.is("day 0", war.keep(), 0);
        war.watches(5);
        Due.is("day 0 still", war.keep(), 0);
        war.watches(1);
        Due.is("day 1", war.keep(), 1);
        war.watches(120);
        Due.is("day 21", war.keep(), 21);
        Due.is("day 21 again", war.keep(), 21);
        Due.says("UNDONE: true;");
        war.watches(120);
        Due.is("undone", war.undo(), true);
        Due.is("day 21", war.count(0), 21);
        Due.is("undone again", war.undo(), true);
        Due.is("still", war.count(0), 21);
        war.watches(6);
        Due.is("once more", war.undo(), true);
        Due.is("day 21 once more", war.count(0), 21);
        Due.says("false: none was KEPT.");
        VerandaWar other = Wars.two();
        other.watches(3);
        Due.is("none", other.undo(), false);
        Due.is("nothing is undone", other.count(1), 3);
        Due.is("nobody is gone", other.count(10) + other.count(20), 2);
    }

    private static int compare(VerandaWar war, int side, int n, int... row) {
        Due.feed(war, row);
        int before = war.count(4);
        int answer = war.check(side, n);
        Due.is("the tape", war.count(4), answer == -2 ? before : 0);
        war.check(0, 0);
        return answer;
    }

    private static void check() {
        Due.says("CHECK of a side by the first n bytes of the tape (0 to 8; empty then; of empty CHAIRS 0): NONE: right; else the first CHAIR "
            + "that is not so;");
        VerandaWar war = new VerandaWar();
        war.chair(0, 1, 0, 50, 0);
        war.chair(0, 7, 0, 50, 0);
        war.chair(1, 0, 0, 50, 0);
        Due.law(war, "b20+c(1=1)");
        war.watches(1);
        Due.is("right", compare(war, 0, 8, 0, 21, 0, 0, 0, 0, 0, 27), -1);
        Due.is("right across", compare(war, 1, 8, 20, 0, 0, 0, 0, 0, 0, 0), -1);
        Due.is("the last", compare(war, 0, 8, 0, 21, 0, 0, 0, 0, 0, 26), 7);
        Due.is("seven of them", compare(war, 0, 7, 0, 21, 0, 0, 0, 0, 0, 26), -1);
        Due.is("an empty chair", compare(war, 0, 8, 0, 21, 0, 1, 0, 0, 0, 26), 3);
        Due.is("the first", compare(war, 0, 8, 1, 0, 0, 0, 0, 0, 0, 0), 0);
        Due.is("a second one", compare(war, 0, 8, 0, 22, 1, 1, 1, 1, 1, 1), 1);
        Due.is("one byte", compare(war, 0, 1, 0, 99), -1);
        Due.is("none, the tape is empty", compare(war, 0, 0, 99, 99), -1);
        Due.is("none of an empty tape", war.check(1, 0), -1);
        Due.is("255 is not -1", compare(war, 0, 1, 255), 0);
        Due.orders(war, "<1I");
        Due.is("who is in is as bored", compare(war, 0, 2, 0, 21), -1);
        Due.law(war, "w10(c=7)");
        war.watches(1);
        Due.is("who is at dinner is as bored", compare(war, 0, 8, 0, 21, 0, 0, 0, 0, 0, 27), -1);
        Due.is("not more", compare(war, 0, 8, 0, 21, 0, 0, 0, 0, 0, 0), 7);
        Due.orders(war, "<7G2");
        Due.is("a chair that was left is empty", compare(war, 0, 8, 0, 21, 27, 0, 0, 0, 0, 0), -1);
        Due.says("-2: no such ones, it has not so many (the tape stays).");
        for (int side : new int[] {-1, 2, Integer.MIN_VALUE, Integer.MAX_VALUE}) {
            Due.is("side " + side, compare(war, side, 1, 0), -2);
            Due.is("side " + side + ", none", compare(war, side, 0, 0), -2);
        }
        for (int n : new int[] {-1, 9, 20, Integer.MIN_VALUE, Integer.MAX_VALUE}) {
            Due.is("n " + n, compare(war, 0, n, 0), -2);
        }
        for (int n = 1; n < 9; n++) {
            Due.is("it has not so many, " + n, war.check(0, n), -2);
        }
        Due.feed(war, 0, 21, 5);
        war.check(0, 9);
        war.check(2, 3);
        Due.is("the tape has what it had", war.check(0, 3), 2);
    }

    private static void count() {
        Due.says("0 the DAY, 1 the WATCH, 2 who LOST (bits), 3 RULES, 4 bytes of the tape, 5 X;");
        VerandaWar war = Wars.two();
        Due.law(war, "x(d=2&h=2);b0(1=1)");
        war.watches(120);
        war.feed(0, 0, 0, 0, 0);
        war.seed(77);
        int[] want = {2, 3, 3, 2, 20, 77};
        for (int what = 0; what < 6; what++) {
            Due.is("what " + what, war.count(what), want[what]);
        }
        for (int side = 0; side < 2; side++) {
            VerandaWar one = Wars.two();
            Due.law(one, "x(s=" + side + ")");
            one.watches(1);
            Due.is("who lost", one.count(2), 1 << side);
        }
    }

    private static void countOfSides() {
        Due.says("10, 20 GENTLEMEN of side 0, 1 (bits), 11, 21 those that SIT, 12, 22 those at DINNER, 13, 23 those IN, 14, 24 the FLOOR, 15, "
            + "25 how many LAMPS its SIGNALS have;");
        VerandaWar war = new VerandaWar();
        for (int c = 0; c < 8; c++) {
            war.chair(0, c, 0, 50, 0);
            if (c % 2 == 1) {
                war.chair(1, c, 0, 50, 0);
            }
        }
        war.floor(0, 3);
        war.floor(1, 97);
        Due.law(war, "w10(c>5);x(c<2)");
        war.watches(1);
        Due.signals(war, 0, "ab");
        Due.signals(war, 1, "6(9e)6e");
        int[] near = {255, 60, 192, 3, 3, 2};
        int[] far = {170, 40, 128, 2, 97, 60};
        for (int i = 0; i < 6; i++) {
            Due.is("side 0, " + i, war.count(10 + i), near[i]);
            Due.is("side 1, " + i, war.count(20 + i), far[i]);
        }
        Due.says("100 + i COLUMN i.");
        for (int i = 0; i < 24; i++) {
            war.column(i, 190 - i);
        }
        for (int i = 0; i < 24; i++) {
            Due.is("column " + i, war.count(100 + i), 190 - i);
        }
        Due.says("NONE for others.");
        int[] good = new int[6 + 12 + 24];
        for (int i = 0; i < 6; i++) {
            good[i] = i;
            good[6 + i] = 10 + i;
            good[12 + i] = 20 + i;
        }
        for (int i = 0; i < 24; i++) {
            good[18 + i] = 100 + i;
        }
        Due.noOther("what", what -> war.count(what), good);
    }
}
