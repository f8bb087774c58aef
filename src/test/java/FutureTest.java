/** Promises 17 to 20: what will come. */
public final class FutureTest {
    public static void main(String[] args) {
        whenIn();
        first();
        loses();
        lasts();
        lastsByState();
        Due.end();
    }

    private static void whenIn() {
        VerandaWar war = Wars.three();
        Due.is("17: two", war.whenIn(1, 2, 120), 2);
        Due.is("17: just two", war.whenIn(1, 2, 2), 2);
        Due.is("17: not in one", war.whenIn(1, 2, 1), -2);
        Due.is("17: never, for the other side loses", war.whenIn(0, 1, 120), -2);
        Due.is("17: n 0", war.whenIn(1, 2, 0), -1);
        Due.is("17: n 121", war.whenIn(1, 2, 121), -1);
        Due.is("17: empty", war.whenIn(1, 3, 5), -1);
        Due.is("17: side 2", war.whenIn(2, 2, 5), -1);
        Due.is("17: chair -1", war.whenIn(0, -1, 5), -1);
        Due.is("17: nothing is changed", war.count(1), 0);
        Due.orders(war, ">2I");
        Due.is("17: he is in", war.whenIn(1, 2, 5), 0);
        Due.is("17: he is in, n 0", war.whenIn(1, 2, 0), -1);
        Due.is("17: six", war.whenIn(0, 1, 120), 6);
        Due.law(war, "w10(c=6);t5(1=1)");
        Due.is("17: by way of dinner", war.whenIn(0, 6, 9), 2);
    }

    private static void first() {
        VerandaWar war = Wars.three();
        Due.is("18: side 0 ahead", war.first(9, 0), 0);
        Due.is("18: the chair", war.first(9, 1), 6);
        Due.is("18: behind two", war.first(9, 2), 2);
        for (int what = 0; what < 3; what++) {
            Due.is("18: nobody in one", war.first(1, what), -2);
        }
        Due.is("18: what 3", war.first(9, 3), -1);
        Due.is("18: what -1", war.first(9, -1), -1);
        Due.is("18: n 0", war.first(0, 0), -1);
        Due.is("18: n 121", war.first(121, 0), -1);
        Due.orders(war, "<6L3");
        Due.is("18: now side 1", war.first(9, 0), 1);
        Due.is("18: its chair", war.first(9, 1), 2);
        Due.orders(war, ">2I");
        Due.is("18: who is in does not go", war.first(9, 1), 6);
        Due.is("18: behind three", war.first(9, 2), 3);
        Due.is("18: nothing is changed", war.count(1), 0);
        war.chair(0, 0, 0, 3, 0);
        Due.is("18: chair 0", war.first(9, 1), 0);
        Due.is("18: behind one", war.first(9, 2), 1);
    }

    private static void loses() {
        VerandaWar war = Wars.three();
        Due.is("19: side 1", war.loses(9, 0), 2);
        Due.is("19: behind two", war.loses(9, 1), 2);
        Due.is("19: none in one", war.loses(1, 0), 0);
        Due.is("19: none in one, when", war.loses(1, 1), -2);
        Due.is("19: what 2", war.loses(9, 2), -1);
        Due.is("19: what -1", war.loses(9, -1), -1);
        Due.is("19: n 0", war.loses(0, 0), -1);
        Due.is("19: n 121", war.loses(121, 0), -1);
        Due.is("19: nothing is changed", war.count(2), 0);
        war.watches(9);
        Due.is("19: who has lost", war.loses(9, 0), 2);
        Due.is("19: it is so", war.loses(9, 1), 0);
        Due.is("19: it is so, n 0", war.loses(0, 1), -1);
        war.chair(1, 2, 0, 60, 0);
        Due.is("19: now side 0", war.loses(120, 0), 1);
        Due.is("19: behind four more", war.loses(120, 1), 4);
    }

    private static void lasts() {
        VerandaWar war = Wars.three();
        Due.is("20: five watches", war.lasts(0, 1, 5), 0);
        Due.is("20: six", war.lasts(0, 1, 6), 1);
        Due.is("20: seven", war.lasts(0, 1, 7), 6);
        Due.is("20: 125 for 25", war.lasts(0, 1, 25), 96);
        Due.is("20: more than 99 more", war.lasts(0, 1, 26), -2);
        Due.is("20: n 0", war.lasts(0, 1, 0), -1);
        Due.is("20: n 61", war.lasts(0, 1, 61), -1);
        Due.is("20: n 60", war.lasts(0, 1, 60), -2);
        Due.is("20: empty", war.lasts(0, 2, 5), -1);
        Due.is("20: side 2", war.lasts(2, 1, 5), -1);
        Due.is("20: chair 8", war.lasts(0, 8, 5), -1);
        Due.is("20: nothing is changed", war.chairIs(0, 1, 2), 30);
        Due.is("20: nothing is changed, watch", war.count(1), 0);
        Due.orders(war, "<1I");
        Due.is("20: in", war.lasts(0, 1, 5), -1);
        Due.orders(war, "<1O");
        Due.law(war, "w10(1=1)");
        Due.is("20: without any t", war.lasts(0, 1, 60), 0);
        war.watches(1);
        Due.is("20: at dinner", war.lasts(0, 1, 5), -1);
        Due.law(war, "t32(1=1)");
        Due.orders(war, "<1O");
        Due.is("20: 99 more", war.lasts(0, 1, 4), 99);
        Due.orders(war, "<1I;<1O");
        war.chair(0, 1, 0, 29, 0);
        Due.is("20: no hundredth", war.lasts(0, 1, 4), -2);
        VerandaWar dry = new VerandaWar();
        dry.chair(0, 0, 0, 0, 0);
        Due.is("20: above 0, not 0", dry.lasts(0, 0, 1), 1);
    }

    private static void lastsByState() {
        VerandaWar war = Wars.three();
        Due.law(war, "t50(l>40);t1(1=1)");
        Due.is("20: more need not last longer", war.lasts(0, 6, 10), 1);
        Due.is("20: 45 in 45 watches can't", war.lasts(0, 6, 45), -2);
        Due.law(war, "b3(1=1);t1(a>5)");
        Due.is("20: b too, ahead of t", war.lasts(0, 6, 12), 1);
        Due.is("20: b too, one less", war.lasts(0, 6, 11), 0);
        Due.law(war, "b60(1=1);t1(1=1);x(1=1);w10(1=1)");
        Due.is("20: boredom 99, no x, no dinner", war.lasts(0, 6, 12), 3);
        Due.law(war, "t1(h=5);t5(d=1)");
        Due.is("20: five and one of day 0, 26 of day 1", war.lasts(0, 6, 12), 18);
        Due.law(war, "x(c=1);t1+n(1=1)");
        Due.is("20: all others as now", war.lasts(0, 6, 5), 6);
        Due.law(war, "t1+v+o(1=1)");
        Due.is("20: others across", war.lasts(0, 6, 5), 6);
        Due.law(war, "t100/l(1=1)");
        Due.is("20: l as it would be, beyond 99", war.lasts(0, 1, 60), 96 - 30 + lastsMore());
    }

    /** By hand: the least start of lemonade above 96 with which t = 100 / l lasts 60 watches. */
    private static int lastsMore() {
        for (int start = 30; start <= 129; start++) {
            int l = start;
            boolean lasts = true;
            for (int i = 0; i < 60 && lasts; i++) {
                l = l == 0 ? 0 : Math.max(0, l - Math.min(99, 100 / l));
                lasts = l > 0;
            }
            if (lasts) {
                return start - 96;
            }
        }
        return Integer.MIN_VALUE;
    }
}
