/** Wars that tests begin with. */
final class Wars {
    private Wars() {
    }

    /** One in chair 0 of each side. */
    static VerandaWar two() {
        VerandaWar war = new VerandaWar();
        war.chair(0, 0, 1, 50, 0);
        war.chair(1, 0, 2, 60, 0);
        return war;
    }

    /** Side 0: chairs 1 and 6; side 1: chair 2; each drinks 5 a watch: chair 6 and chair 2 across go in behind two. */
    static VerandaWar three() {
        VerandaWar war = new VerandaWar();
        war.chair(0, 1, 0, 30, 0);
        war.chair(0, 6, 0, 10, 0);
        war.chair(1, 2, 0, 10, 0);
        Due.law(war, "t5(1=1)");
        return war;
    }

    /** Signals of both sides; an empty text: none. */
    static VerandaWar signals(String near, String far) {
        VerandaWar war = new VerandaWar();
        if (!near.isEmpty()) {
            Due.signals(war, 0, near);
        }
        if (!far.isEmpty()) {
            Due.signals(war, 1, far);
        }
        return war;
    }

    /** Somebody in each chair whose digit is in the text of its side. */
    static VerandaWar seats(String here, String across) {
        VerandaWar war = new VerandaWar();
        for (int c = 0; c < 8; c++) {
            if (here.indexOf('0' + c) >= 0) {
                war.chair(0, c, 0, 9, 0);
            }
            if (across.indexOf('0' + c) >= 0) {
                war.chair(1, c, 0, 9, 0);
            }
        }
        return war;
    }
}
