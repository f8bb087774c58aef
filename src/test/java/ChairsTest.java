/** Promises 1 to 5, 11 and 31 to 35. */
public final class ChairsTest {
    public static void main(String[] args) {
        aNewObject();
        chair();
        floorAndColumn();
        feed();
        chairIs();
        seed();
        keepAndUndo();
        check();
        count();
        Due.end();
    }

    private static void aNewObject() {
        VerandaWar war = new VerandaWar();
        int[] zero = {0, 1, 2, 3, 4, 10, 11, 12, 13, 15, 20, 21, 22, 23, 25};
        for (int what : zero) {
            Due.is("1: new count " + what, war.count(what), 0);
        }
        Due.is("1: X", war.count(5), 1);
        Due.is("1: floor 0", war.count(14), 50);
        Due.is("1: floor 1", war.count(24), 50);
        for (int i = 0; i < 24; i++) {
            Due.is("1: column " + i, war.count(100 + i), 0);
        }
        for (int c = 0; c < 8; c++) {
            Due.is("1: chair " + c, war.chairIs(0, c, 0), -1);
            Due.is("1: chair across " + c, war.chairIs(1, c, 4), -1);
        }
        Due.is("1: beat", war.beat(0), -2);
        Due.is("1: undo", war.undo(), false);
    }

    private static void chair() {
        VerandaWar war = new VerandaWar();
        int[][] bad = {{-1, 0, 0, 0, 0}, {2, 0, 0, 0, 0}, {0, -1, 0, 0, 0}, {0, 8, 0, 0, 0}, {0, 0, -1, 0, 0},
            {0, 0, 10, 0, 0}, {0, 0, 0, -1, 0}, {0, 0, 0, 100, 0}, {0, 0, 0, 0, -1}, {0, 0, 0, 0, 10},
            {Integer.MIN_VALUE, Integer.MAX_VALUE, 0, 0, 0}};
        for (int[] b : bad) {
            Due.is("2: bad chair", war.chair(b[0], b[1], b[2], b[3], b[4]), false);
        }
        Due.is("2: nobody came", war.count(10) + war.count(20), 0);
        Due.is("2: the highest", war.chair(1, 7, 9, 99, 9), true);
        Due.is("2: the lowest", war.chair(0, 0, 0, 0, 0), true);
        Due.is("2: who is there", war.count(20), 128);
        Due.law(war, "b40(s=s)");
        war.watches(1);
        Due.is("2: he is in", war.chairIs(0, 0, 4), 2);
        Due.is("2: lost", war.count(2), 1);
        Due.is("2: refused, lost stays", war.chair(0, 0, 0, 0, 10), false);
        Due.is("2: still lost", war.count(2), 1);
        Due.is("2: another one", war.chair(1, 7, 3, 20, 2), true);
        Due.is("2: forgotten", war.count(2), 0);
        int[] want = {3, 0, 20, 2, 0};
        for (int what = 0; what < 5; what++) {
            Due.is("2: in his place " + what, war.chairIs(1, 7, what), want[what]);
        }
        Due.is("2: side 0 stays in", war.chairIs(0, 0, 4), 2);
    }

    private static void floorAndColumn() {
        VerandaWar war = new VerandaWar();
        int[][] bad = {{-1, 5}, {2, 5}, {0, -1}, {1, 100}};
        for (int[] b : bad) {
            Due.is("3: bad floor", war.floor(b[0], b[1]), false);
        }
        Due.is("3: 0", war.floor(0, 0), true);
        Due.is("3: 99", war.floor(1, 99), true);
        Due.is("3: floor 0", war.count(14), 0);
        Due.is("3: floor 1", war.count(24), 99);
        int[][] badColumns = {{-1, 5}, {24, 5}, {0, -1}, {23, 200}};
        for (int[] b : badColumns) {
            Due.is("4: bad column", war.column(b[0], b[1]), false);
        }
        Due.is("4: 199", war.column(23, 199), true);
        Due.is("4: 7", war.column(0, 7), true);
        Due.is("4: column 23", war.count(123), 199);
        Due.is("4: column 0", war.count(100), 7);
        Due.is("4: column 1", war.count(101), 0);
    }

    private static void feed() {
        VerandaWar war = new VerandaWar();
        for (int i = 1; i <= 13; i++) {
            Due.is("5: feed", war.feed(0, 0, 0, 0, 0), 20 * i);
        }
        Due.is("5: 261 and more", war.feed(0, 0, 0, 0, 0), -1);
        Due.is("5: the tape stays", war.count(4), 260);
        Due.is("5: too long", war.law(241), -1);
        Due.is("5: emptied", war.law(240), -1000);
        Due.is("5: empty", war.count(4), 0);
        war.chair(0, 0, 0, 1, 0);
        war.chair(0, 1, 0, 1, 0);
        war.feed(0x3C304C39, 0x383B3C31, 0x4C350000, -1, -1);
        Due.is("5: highest first", war.orders(10), 2);
        Due.is("5: 98 more", war.chairIs(0, 0, 2), 99);
        Due.is("5: 5 more", war.chairIs(0, 1, 2), 6);
        war.feed(-1, -1, -1, -1, -1);
        Due.is("5: bytes above 127", war.ants(0, 0), -2);
    }

    private static void chairIs() {
        VerandaWar war = new VerandaWar();
        war.chair(0, 2, 7, 33, 4);
        war.chair(1, 5, 1, 2, 3);
        int[] want = {7, 0, 33, 4, 0, 32, 70, -1};
        for (int what = 0; what < 8; what++) {
            Due.is("11: what " + what, war.chairIs(0, 2, what), want[what]);
        }
        Due.is("11: what -1", war.chairIs(0, 2, -1), -1);
        Due.is("11: empty", war.chairIs(0, 3, 0), -1);
        Due.is("11: side", war.chairIs(2, 2, 0), -1);
        Due.is("11: side -1", war.chairIs(-1, 2, 0), -1);
        Due.is("11: chair 8", war.chairIs(0, 8, 0), -1);
        Due.is("11: chair -1", war.chairIs(1, -1, 0), -1);
        Due.is("11: across", war.chairIs(1, 5, 5), 4);
        Due.orders(war, "<2I");
        Due.is("11: in", war.chairIs(0, 2, 4), 2);
        Due.is("11: who does not sit is not seen", war.chairIs(1, 5, 5), 0);
        Due.is("11: who is in sees", war.chairIs(0, 2, 5), 32);
        war.floor(0, 9);
        Due.is("11: eye", war.chairIs(0, 2, 6), 29);
        Due.is("11: eye across", war.chairIs(1, 5, 6), 65);
        Due.law(war, "w10(s=s)");
        war.watches(1);
        Due.is("11: at dinner", war.chairIs(1, 5, 4), 1);
    }

    private static void seed() {
        VerandaWar war = new VerandaWar();
        Due.is("31: -1", war.seed(-1), false);
        Due.is("31: 65536", war.seed(65536), false);
        Due.is("31: X stays", war.count(5), 1);
        Due.is("31: 65535", war.seed(65535), true);
        Due.is("31: X", war.count(5), 65535);
        war.chair(0, 0, 0, 9, 0);
        war.watches(1);
        Due.is("31: the draw behind it", war.count(5), (25173L * 65535 + 13849) % 65536);
        Due.is("31: 0", war.seed(0), true);
        Due.is("31: X 0", war.count(5), 0);
        war.watches(1);
        Due.is("31: 13849", war.count(5), 13849);
    }

    private static void keepAndUndo() {
        VerandaWar war = new VerandaWar();
        Due.is("33: nothing kept", war.undo(), false);
        war.chair(0, 0, 1, 50, 3);
        war.chair(1, 1, 2, 60, 4);
        Due.law(war, "b3(s=s);t2(s=s);w5(s=s)");
        war.watches(13);
        Due.is("32: the day", war.keep(), 2);
        int boredom = war.chairIs(0, 0, 1);
        int lemonade = war.chairIs(1, 1, 2);
        int x = war.count(5);
        int state = war.chairIs(0, 0, 4);
        Due.orders(war, "<0C9;<0G4;>1I");
        war.watches(5);
        war.floor(0, 70);
        war.column(3, 5);
        war.chair(0, 7, 1, 1, 1);
        Due.law(war, "x(s=s)");
        Due.signals(war, 0, "abc");
        war.watches(9);
        Due.is("32: lost now", war.count(2), 1);
        Due.feed(war, 1, 2, 3);
        Due.is("33: undone", war.undo(), true);
        Due.is("33: day", war.count(0), 2);
        Due.is("33: watch", war.count(1), 1);
        Due.is("33: X", war.count(5), x);
        Due.is("33: lost", war.count(2), 0);
        Due.is("33: gentlemen 0", war.count(10), 1);
        Due.is("33: gentlemen 1", war.count(20), 2);
        Due.is("33: boredom", war.chairIs(0, 0, 1), boredom);
        Due.is("33: lemonade", war.chairIs(1, 1, 2), lemonade);
        Due.is("33: cushions", war.chairIs(0, 0, 3), 3);
        Due.is("33: state", war.chairIs(0, 0, 4), state);
        Due.is("33: the floor stays", war.count(14), 70);
        Due.is("33: the column stays", war.count(103), 5);
        Due.is("33: the law stays", war.count(3), 1);
        Due.is("33: the tape stays", war.count(4), 20);
        Due.is("33: signals stay", war.count(15), 3);
        war.watches(1);
        Due.is("32: kept while lost", war.keep(), 2);
        Due.is("32: lost", war.count(2), 3);
        war.chair(0, 3, 3, 3, 3);
        Due.is("33: again", war.undo(), true);
        Due.is("33: lost again", war.count(2), 3);
        Due.is("33: and again", war.undo(), true);
        Due.is("33: gone", war.count(10), 1);
    }

    private static void check() {
        VerandaWar war = new VerandaWar();
        war.chair(1, 0, 1, 50, 0);
        war.chair(1, 2, 5, 50, 0);
        Due.law(war, "b5+k(s=s)");
        war.watches(2);
        Due.feed(war, 12, 0, 20, 0, 0, 0, 0, 0);
        Due.is("34: right", war.check(1, 8), -1);
        Due.is("34: the tape is empty", war.count(4), 0);
        Due.feed(war, 12, 0, 21, 0, 0, 0, 0, 1);
        Due.is("34: chair 2", war.check(1, 8), 2);
        Due.is("34: the tape is empty again", war.count(4), 0);
        Due.feed(war, 12, 1, 20);
        Due.is("34: an empty chair", war.check(1, 3), 1);
        Due.feed(war, 12, 0, 21);
        Due.is("34: only two", war.check(1, 2), -1);
        Due.feed(war, 0, 0, 0, 0, 0, 0, 0, 1);
        Due.is("34: chair 7", war.check(0, 8), 7);
        Due.feed(war, 13, 0, 21);
        Due.is("34: chair 0", war.check(1, 3), 0);
        Due.is("34: it has not so many", war.check(0, 1), -2);
        Due.is("34: none at all", war.check(0, 0), -1);
        Due.feed(war, 9);
        Due.is("34: side 2", war.check(2, 1), -2);
        Due.is("34: side -1", war.check(-1, 1), -2);
        Due.is("34: n 9", war.check(0, 9), -2);
        Due.is("34: n -1", war.check(0, -1), -2);
        Due.is("34: the tape stays", war.count(4), 20);
        Due.is("34: none", war.check(0, 0), -1);
        Due.is("34: empty then", war.count(4), 0);
    }

    private static void count() {
        VerandaWar war = new VerandaWar();
        int[] none = {-1, 6, 7, 8, 9, 16, 19, 26, 30, 99, 124, 1000, Integer.MAX_VALUE, Integer.MIN_VALUE};
        for (int what : none) {
            Due.is("35: count " + what, war.count(what), -1);
        }
        war.chair(0, 1, 1, 50, 0);
        war.chair(0, 3, 1, 50, 0);
        war.chair(0, 7, 1, 50, 0);
        war.chair(1, 6, 1, 50, 0);
        Due.law(war, "w10(c=3);b99(c=7);x(s=2)");
        war.watches(1);
        int[] want = {138, 2, 8, 128, 50, 0};
        for (int i = 0; i < 6; i++) {
            Due.is("35: side 0, " + i, war.count(10 + i), want[i]);
        }
        int[] across = {64, 64, 0, 0, 50, 0};
        for (int i = 0; i < 6; i++) {
            Due.is("35: side 1, " + i, war.count(20 + i), across[i]);
        }
        Due.is("35: rules", war.count(3), 3);
        Due.is("35: watch", war.count(1), 1);
        war.watches(120);
        Due.is("35: day", war.count(0), 20);
        Due.is("35: watch of it", war.count(1), 1);
        Due.signals(war, 1, "3(ab).");
        Due.is("35: lamps", war.count(25), 7);
        Due.is("35: no lamps", war.count(15), 0);
        Due.feed(war, new int[40]);
        Due.is("35: tape", war.count(4), 40);
    }
}
