/** All that a war tells of itself without being changed, as one text: what is the same has the same picture. */
final class Picture {
    private Picture() {
    }

    static String of(VerandaWar war) {
        return withoutTape(war) + ", tape " + war.count(4);
    }

    static String withoutTape(VerandaWar war) {
        StringBuilder text = new StringBuilder();
        for (int what = 0; what < 124; what++) {
            text.append(what == 4 ? 0 : war.count(what)).append(' ');
        }
        for (int place = 0; place < 16; place++) {
            for (int what = 0; what < 7; what++) {
                text.append(war.chairIs(place / 8, place % 8, what)).append(' ');
            }
        }
        for (int side = 0; side < 2; side++) {
            for (int sign = 0; sign < 6; sign++) {
                text.append(war.lamps(side, sign)).append(' ');
            }
            text.append(war.beat(side)).append(' ').append(war.march(side)).append(' ');
        }
        text.append(war.answered()).append(' ');
        for (int place = 0; place < 60; place++) {
            text.append(war.inCommon(place)).append(' ');
        }
        // The law can't be asked for: what it does tells which one it is.
        for (int n : new int[] {1, 2, 7, 120}) {
            for (int what = 0; what < 28; what++) {
                text.append(war.tried(n, what)).append(' ');
            }
        }
        return text.toString();
    }
}
