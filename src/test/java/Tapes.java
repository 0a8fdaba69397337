/** Feeds texts to an object as tapes. */
final class Tapes {
    static final int VILLAGE = 0;
    static final int TELLING = 1;

    private Tapes() {
    }

    /** Puts a text's bytes, from an empty tape on, on the tape, and nothing behind them. */
    static void feed(SaidBack x, String text) {
        int[] five = new int[5];
        for (int from = 0; from < text.length(); from += 20) {
            for (int i = 0; i < 5; i++) {
                five[i] = 0;
                for (int j = 0; j < 4; j++) {
                    int at = from + 4 * i + j;
                    five[i] = five[i] << 8 | (at < text.length() ? text.charAt(at) & 255 : 0);
                }
            }
            x.feed(five[0], five[1], five[2], five[3], five[4]);
        }
        x.end(text.length());
    }

    static int tell(SaidBack x, int sort, String text) {
        feed(x, text);
        return x.text(sort, SaidBack.NONE);
    }

    static SaidBack with(String village, String... tellings) {
        SaidBack x = new SaidBack();
        tell(x, VILLAGE, village);
        for (String telling : tellings) {
            tell(x, TELLING, telling);
        }
        return x;
    }
}
