/** Promises 21, 22 and 28 to 30: glasses, marches, bridge, parrots and white ants. */
public final class GamesTest {
    public static void main(String[] args) {
        glasses();
        march();
        bridge();
        bridgePlay();
        parrots();
        ants();
        Due.end();
    }

    private static void row(String here, String across, int twos, int apart, int... whom) {
        VerandaWar war = Wars.seats(here, across);
        String name = "21: " + here + " to " + across + ", ";
        Due.is(name + "apart", war.glasses(100), apart);
        Due.is(name + "twos", war.glasses(101), twos);
        for (int c = 0; c < 8; c++) {
            Due.is(name + "whom " + c, war.glasses(c), whom[c]);
        }
    }

    private static void glasses() {
        row("", "", 0, 0, -2, -2, -2, -2, -2, -2, -2, -2);
        row("01", "", 0, 0, -2, -2, -2, -2, -2, -2, -2, -2);
        row("01", "23", 2, 4, 2, 3, -2, -2, -2, -2, -2, -2);
        row("3", "024", 1, 1, -2, -2, -2, 2, -2, -2, -2, -2);
        row("024", "3", 1, 1, -2, -2, 3, -2, -2, -2, -2, -2);
        row("024", "1", 1, 1, 1, -2, -2, -2, -2, -2, -2, -2);
        row("07", "3", 1, 3, 3, -2, -2, -2, -2, -2, -2, -2);
        row("34", "0347", 2, 0, -2, -2, -2, 3, 4, -2, -2, -2);
        row("35", "24", 2, 2, -2, -2, -2, 2, -2, 4, -2, -2);
        row("01234567", "01234567", 8, 0, 0, 1, 2, 3, 4, 5, 6, 7);
        VerandaWar war = new VerandaWar();
        for (int what : new int[] {-1, 8, 99, 102}) {
            Due.is("21: what " + what, war.glasses(what), -1);
        }
        war.chair(0, 0, 0, 9, 0);
        war.chair(1, 0, 0, 9, 0);
        war.chair(1, 5, 0, 9, 0);
        Due.orders(war, ">0I");
        Due.is("21: only those that sit", war.glasses(0), 5);
        Due.is("21: five apart", war.glasses(100), 5);
    }

    private static void march() {
        VerandaWar war = new VerandaWar();
        Due.is("22: nobody", war.march(0), 0);
        Due.is("22: side 2", war.march(2), -1);
        Due.is("22: side -1", war.march(-1), -1);
        int[] ranks = {5, 3, 3, 9, 0, 1};
        for (int i = 0; i < ranks.length; i++) {
            war.chair(1, i + (i > 2 ? 2 : 0), ranks[i], 9, 0);
        }
        Due.is("22: changes", war.march(1), 4 + 2 + 2 + 2);
        Due.is("22: not the other side", war.march(0), 0);
        Due.orders(war, ">5I");
        Due.is("22: who is in does not march", war.march(1), 4 + 2 + 2);
        Due.law(war, "w10(1=1)");
        war.watches(1);
        Due.is("22: who is at dinner does", war.march(1), 4 + 2 + 2);
    }

    private static void cards(int n, int trumps, int leads, int tricks, int card, int... cards) {
        VerandaWar war = new VerandaWar();
        Due.feed(war, cards);
        Due.is("28: tricks", war.bridge(n, trumps, leads, 0), tricks);
        Due.is("28: empty then", war.count(4), 0);
        Due.feed(war, cards);
        Due.is("28: card", war.bridge(n, trumps, leads, 1), card);
        Due.is("28: empty again", war.count(4), 0);
    }

    private static void bridge() {
        cards(1, 4, 0, 1, 12, 12, 11, 10, 9);
        cards(1, 4, 1, 0, 12, 11, 12, 10, 9);
        cards(1, 4, 0, 1, 0, 0, 14, 15, 16);
        cards(1, 1, 0, 0, 0, 0, 14, 15, 16);
        cards(1, 1, 0, 1, 0, 0, 14, 16, 15);
        cards(1, 3, 2, 1, 51, 0, 14, 51, 1);
        cards(1, 0, 2, 0, 51, 2, 14, 51, 3);
        cards(1, 4, 3, 0, 1, 51, 50, 49, 1);
        cards(1, 4, 0, -2, -2, 12, 12, 10, 9);
        cards(1, 4, 0, -2, -2, 52, 11, 10, 9);
        cards(1, 4, 0, -2, -2, 0, 11, 10, 255);
        cards(2, 4, 0, -2, -2, 0, 1, 2, 3, 4, 5, 6, 0);
        VerandaWar war = new VerandaWar();
        Due.feed(war, 12, 11, 10, 9, 8, 7, 6, 5, 4, 3, 2, 1);
        int[][] bad = {{0, 0, 0, 0}, {4, 0, 0, 0}, {1, -1, 0, 0}, {1, 5, 0, 0}, {1, 0, -1, 0}, {1, 0, 4, 0},
            {1, 0, 0, -1}, {1, 0, 0, 2}};
        for (int[] b : bad) {
            Due.is("28: no such ones", war.bridge(b[0], b[1], b[2], b[3]), -1);
        }
        Due.is("28: the tape stays", war.count(4), 20);
        Due.is("28: all of side 0 and 2", war.bridge(3, 4, 0, 0), 3);
        Due.is("28: it has not so many", war.bridge(1, 4, 0, 0), -1);
    }

    private static void bridgePlay() {
        // The second trick is lost whichever is led, so that the lower card does as well.
        cards(2, 4, 0, 1, 9, 12, 9, 11, 0, 10, 1, 13, 14);
        cards(2, 4, 0, 0, 1, 1, 9, 11, 10, 2, 13, 3, 14);
        // A finesse: led from player 2, the ace waits for what player 3 lays.
        cards(2, 4, 2, 2, 0, 12, 10, 1, 2, 0, 13, 11, 14);
        // Following suit: player 1 must not ruff with a card of the suit led in hand.
        cards(2, 1, 0, 1, 12, 12, 26, 0, 13, 1, 27, 2, 28);
        // The second and third card of a trick follow the first one's suit, not each other's.
        cards(2, 4, 0, 1, 0, 0, 25, 13, 12, 1, 24, 14, 2);
        cards(2, 4, 3, 1, 26, 0, 12, 14, 1, 13, 11, 26, 3);
        // The winner leads: player 2 takes the first trick, and his long suit the others.
        cards(3, 4, 0, 3, 0, 0, 26, 27, 13, 14, 15, 12, 50, 51, 1, 40, 41);
        // The lowest card that does as well.
        cards(3, 4, 0, 3, 10, 10, 11, 12, 0, 1, 2, 3, 4, 5, 6, 7, 8);
        cards(3, 4, 1, 0, 10, 0, 1, 2, 12, 10, 11, 3, 4, 5, 6, 7, 8);
    }

    private static void odds(int many, int above, int below, int exactly, int under, int... tenths) {
        int[] want = {above, below, exactly, under};
        for (int what = 0; what < 4; what++) {
            VerandaWar war = new VerandaWar();
            Due.feed(war, tenths);
            Due.is("29: what " + what + " of " + many, war.parrots(tenths.length, many, what), want[what]);
            Due.is("29: empty then", war.count(4), 0);
        }
    }

    private static void parrots() {
        odds(1, 1, 2, 1, 2, 5);
        odds(0, 1, 1, 1, 2, 5);
        odds(2, 0, 1, 0, 1, 5);
        odds(1, 3, 4, 1, 2, 5, 5);
        odds(2, 1, 4, 1, 4, 5, 5);
        odds(1, 1, 1, 1, 1, 10);
        odds(1, 0, 1, 0, 1, 0);
        odds(0, 1, 1, 1, 1, 0);
        odds(8, 43046721, 100000000, 43046721, 100000000, 9, 9, 9, 9, 9, 9, 9, 9);
        odds(1, 99999999, 100000000, 9, 12500000, 9, 9, 9, 9, 9, 9, 9, 9);
        odds(8, 1, 1, 1, 1, 10, 10, 10, 10, 10, 10, 10, 10);
        odds(2, 1, 5, 9, 50, 2, 5, 2);
        odds(1, -2, -2, -2, -2, 5, 11);
        odds(1, -2, -2, -2, -2, 255);
        VerandaWar war = new VerandaWar();
        Due.feed(war, 5, 5, 5, 5, 5, 5, 5, 5, 5);
        int[][] bad = {{0, 1, 0}, {9, 1, 0}, {1, -1, 0}, {1, 9, 0}, {1, 1, -1}, {1, 1, 4}};
        for (int[] b : bad) {
            Due.is("29: no such ones", war.parrots(b[0], b[1], b[2]), -1);
        }
        Due.is("29: the tape stays", war.count(4), 20);
        Due.is("29: half", war.parrots(1, 1, 1), 2);
        Due.is("29: it has not so many", war.parrots(1, 1, 1), -1);
    }

    private static void eaten(int from, int[] wood, int... want) {
        for (int what = 0; what <= 8; what++) {
            VerandaWar war = new VerandaWar();
            Due.feed(war, wood);
            Due.is("30: from " + from + ", " + what, war.ants(from, what), want[what]);
            Due.is("30: empty then", war.count(4), 0);
        }
    }

    private static void ants() {
        int[] wood = {1, 2, 3, 4, 5, 6, 7, 99};
        eaten(0, wood, 1, 3, 6, 10, 15, 21, 28, 127, 7);
        eaten(7, wood, 127, 126, 124, 121, 117, 112, 106, 99, 0);
        eaten(3, wood, 10, 9, 7, 4, 9, 15, 22, 121, 7);
        eaten(4, new int[] {1, 1, 1, 1, 1, 1, 1, 2}, 5, 4, 3, 2, 1, 2, 3, 5, 0);
        eaten(1, new int[] {1, 50, 1, 1, 1, 1, 1, 1}, 51, 50, 51, 52, 53, 54, 55, 56, 7);
        eaten(2, new int[] {9, 1, 1, 1, 1, 1, 1, 1}, 11, 2, 1, 2, 3, 4, 5, 6, 0);
        int[] bad = {-2, -2, -2, -2, -2, -2, -2, -2, -2};
        eaten(0, new int[] {1, 1, 1, 1, 1, 1, 1, 0}, bad);
        eaten(0, new int[] {100, 1, 1, 1, 1, 1, 1, 1}, bad);
        VerandaWar war = new VerandaWar();
        Due.feed(war, wood);
        int[][] none = {{-1, 0}, {8, 0}, {0, -1}, {0, 9}};
        for (int[] b : none) {
            Due.is("30: no such ones", war.ants(b[0], b[1]), -1);
        }
        Due.is("30: the tape stays", war.count(4), 20);
        Due.is("30: eaten", war.ants(1, 1), 2);
        Due.is("30: it has not so many", war.ants(1, 1), -1);
    }
}
