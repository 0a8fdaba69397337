/** Feeds texts to an object as tapes. */
final class Tapes {
    static final int VILLAGE = 0;
    static final int TELLING = 1;

    private Tapes() {
    }

    /** Puts a text's bytes, from an empty tape on, on the tape, and nothing behind them. */
    static void feed(SaidBack x, String text) {
        int[] five = new int[5];
        for (int from = 0; from < text.length(); from += 20) {
            for (int i = 0; i < 5; i++) {
                five[i] = 0;
                for (int j = 0; j < 4; j++) {
                    int at = from + 4 * i + j;
                    five[i] = five[i] << 8 | (at < text.length() ? text.charAt(at) & 255 : 0);
                }
            }
            x.feed(five[0], five[1], five[2], five[3], five[4]);
        }
        x.end(text.length());
    }

    static int tell(SaidBack x, int sort, String text) {
        feed(x, text);
        return x.text(sort, SaidBack.NONE);
    }

    /** Runs and what-ifs of other texts, and back by an image: nothing of them may be left. */
    static void muddle(SaidBack x) {
        x.image(2);
        tell(x, VILLAGE, "people 16;both 0 1 2 3 4 5;most 6 7 8 9;last 10 11 12;doubt 13 50;slow 3;tires 20 9;"
            + "tie 0 1 1 9;tie 1 2 3 9;tie 2 0 2 9;tie 6 7 1 1;tie 7 8 1 1;tie 8 6 1 1;tie 10 11 1 1;tie 11 10 1 1;");
        tell(x, TELLING, "word 0 0;deny 0 1;word 0 6;deny 0 8;word 0 10;deny 0 11;word 0 14;word 0 15;wall 39 3 99;"
            + "deny 99 3;word 99 2;wall 0 0 9;");
        x.holders(0, 0, 200, false);
        x.barred(0, 0, 99, 1);
        x.cure(0, 0, 99, 1);
        x.key(0, 0, true);
        x.key(0, 0, false);
        x.drawn(0, 0, 1, 200, 0);
        x.begun(0, 0, 99, 0, -1);
        x.cut(0, 0, 2);
        x.soon(0, 0, 2, true);
        x.again(2);
    }

    /** A new object, muddled, with one village and some tellings. */
    static SaidBack with(String village, String... tellings) {
        SaidBack x = new SaidBack();
        muddle(x);
        tell(x, VILLAGE, village);
        for (String telling : tellings) {
            tell(x, TELLING, telling);
        }
        return x;
    }
}
