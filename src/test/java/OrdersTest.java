/** Promise 7: orders as texts in a language. */
public final class OrdersTest {
    public static void main(String[] args) {
        faults();
        deeds();
        changes();
        linesTogether();
        refusedCalls();
        Due.end();
    }

    private static VerandaWar some() {
        VerandaWar war = new VerandaWar();
        war.chair(0, 0, 1, 10, 2);
        war.chair(0, 7, 2, 20, 3);
        war.chair(1, 3, 3, 30, 4);
        return war;
    }

    private static void text(String text, int want) {
        VerandaWar war = some();
        Due.is("7: " + text, Due.orders(war, text), want);
        Due.is("7: the tape is empty, " + text, war.count(4), 0);
        if (want < 0) {
            Due.is("7: nothing is done, " + text, war.chairIs(0, 0, 2), 10);
            Due.is("7: nobody moved, " + text, war.count(10), 129);
            Due.is("7: all sit, " + text, war.count(11), 129);
            Due.is("7: cushions, " + text, war.chairIs(0, 0, 3), 2);
        }
    }

    private static void faults() {
        text("=0I", -1000);
        text("<", -1001);
        text("<8I", -1001);
        text("<9I", -1001);
        text("<aI", -1001);
        text("<1I", -7001);
        text("<1", -7001);
        text("<1Z", -7001);
        text(">0I", -7001);
        text("<0", -1002);
        text("<0i", -1002);
        text("<0 I", -1002);
        text("<0L", -1003);
        text("<0La", -1003);
        text("<0L;", -1003);
        text("<0L1a", -1004);
        text("<0L12a", -1005);
        text("<0L123", -2005);
        text("<0L000", -2005);
        text("<0C", -1003);
        text("<0C10", -3003);
        text("<0C99;", -3003);
        text("<0C10x", -3003);
        text("<0C100", -2005);
        text("<0C9x", -1004);
        text("<0C091", -2005);
        text("<0G", -1003);
        text("<0G8", -1003);
        text("<0G12", -1004);
        text("<0II", -1003);
        text("<0I,", -1003);
        text("<0I;", -1004);
        text("<0I;;", -1004);
        text("<0I;<0O;x", -1008);
        text("<0L5;<0I;<1I", -7010);
        text("<0L5;<0C10", -3008);
        text("<0L5;<0G1;<0I", -7011);
        text("<0G7;<1I", -7006);
    }

    private static void deeds() {
        VerandaWar war = some();
        Due.is("7: L", Due.orders(war, "<0L7"), 1);
        Due.is("7: 7 more", war.chairIs(0, 0, 2), 17);
        Due.is("7: L of two digits", Due.orders(war, "<0L09"), 1);
        Due.is("7: 9 more", war.chairIs(0, 0, 2), 26);
        Due.is("7: L 99", Due.orders(war, "<0L99"), 1);
        Due.is("7: 99 at most", war.chairIs(0, 0, 2), 99);
        Due.is("7: C 0", Due.orders(war, ">3C0"), 1);
        Due.is("7: none", war.chairIs(1, 3, 3), 0);
        Due.is("7: C 09", Due.orders(war, ">3C09"), 1);
        Due.is("7: nine", war.chairIs(1, 3, 3), 9);
        Due.is("7: C 5, not more", Due.orders(war, ">3C5"), 1);
        Due.is("7: five", war.chairIs(1, 3, 3), 5);
        Due.law(war, "b7(1=1);w10(s=0)");
        war.watches(1);
        Due.is("7: two at dinner", war.count(12), 129);
        Due.is("7: O from dinner", Due.orders(war, "<0O"), 1);
        Due.is("7: sits", war.chairIs(0, 0, 4), 0);
        Due.is("7: as bored as before", war.chairIs(0, 0, 1), 7);
        Due.is("7: I from dinner", Due.orders(war, "<7I"), 1);
        Due.is("7: in", war.chairIs(0, 7, 4), 2);
        Due.is("7: bored inside", war.chairIs(0, 7, 1), 7);
        Due.is("7: L for one who is in", Due.orders(war, "<7L1"), 1);
        Due.is("7: has it", war.chairIs(0, 7, 2), 21);
        Due.is("7: O from inside", Due.orders(war, "<7O"), 1);
        Due.is("7: bored no more", war.chairIs(0, 7, 1), 0);
        Due.is("7: sits too", war.chairIs(0, 7, 4), 0);
        Due.is("7: O of one who sits", Due.orders(war, "<0O"), 1);
        Due.is("7: stays bored", war.chairIs(0, 0, 1), 7);
        Due.is("7: all in", Due.orders(war, "<0I;<7I;>3I"), 3);
        Due.is("7: by orders nobody loses", war.count(2), 0);
        Due.is("7: IO", Due.orders(war, ">3I;>3O"), 2);
    }

    private static void changes() {
        VerandaWar war = some();
        Due.law(war, "b3+k(1=1);t1(1=1)");
        war.watches(2);
        Due.is("7: G", Due.orders(war, "<7I;<0G7"), 2);
        int[] seven = {1, 8, 8, 3, 0};
        int[] zero = {2, 10, 18, 2, 2};
        for (int what = 0; what < 5; what++) {
            Due.is("7: now in 7, " + what, war.chairIs(0, 7, what), seven[what]);
            Due.is("7: now in 0, " + what, war.chairIs(0, 0, what), zero[what]);
        }
        Due.is("7: to an empty chair", Due.orders(war, "<0G3"), 1);
        Due.is("7: gone", war.chairIs(0, 0, 0), -1);
        Due.is("7: there", war.chairIs(0, 3, 0), 2);
        Due.is("7: no cushions there", war.chairIs(0, 3, 3), 0);
        Due.is("7: still in", war.chairIs(0, 3, 4), 2);
        Due.is("7: back", Due.orders(war, "<3C5;<3G0"), 2);
        Due.is("7: his cushions have stayed", war.chairIs(0, 0, 3), 2);
        Due.is("7: the other way", Due.orders(war, "<0G3"), 1);
        Due.is("7: those there, too", war.chairIs(0, 3, 3), 5);
        Due.is("7: with himself", Due.orders(war, "<3G3"), 1);
        Due.is("7: is there", war.chairIs(0, 3, 0), 2);
        Due.is("7: on side 1", Due.orders(war, ">3G0;>0G1;>1L1"), 3);
        Due.is("7: two on", war.count(20), 2);
    }

    private static void linesTogether() {
        StringBuilder twenty = new StringBuilder("<0L1");
        for (int i = 1; i < 20; i++) {
            twenty.append(";<0L1");
        }
        VerandaWar war = some();
        Due.is("7: 20 lines", Due.orders(war, twenty.toString()), 20);
        Due.is("7: 20 more", war.chairIs(0, 0, 2), 30);
        text(twenty + ";<", -4100);
        text(twenty + ";>9", -4100);
        text(twenty + ";", -1100);
        text(twenty + ";0", -1100);
    }

    private static void refusedCalls() {
        VerandaWar war = some();
        Due.feed(war, "<0L1");
        Due.is("7: n 0", war.orders(0), -1);
        Due.is("7: n -5", war.orders(-5), -1);
        Due.is("7: not so many", war.orders(21), -1);
        for (int i = 0; i < 6; i++) {
            war.feed(0, 0, 0, 0, 0);
        }
        Due.is("7: n 121", war.orders(121), -1);
        Due.is("7: the tape stays", war.count(4), 140);
        Due.is("7: the first four", war.orders(4), 1);
        Due.is("7: empty then", war.count(4), 0);
    }
}
