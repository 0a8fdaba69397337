/** Promises 20 to 24: ways, whatever anybody says. */
public final class WaysTest {
    private static final Due DUE = new Due("WaysTest");
    private static final int[] EDGES = {Integer.MIN_VALUE, -3, -2, -1, 999, Integer.MAX_VALUE};

    /** 0 to 5 by 1 and 2, by 3 and 4; between them from 1 to 4, and a way back from 5 to 0; nobody to 6. */
    private static final String NET = "people 7;tie 0 1 1 3;tie 0 3 2 4;tie 1 2 1 5;tie 3 4 1 6;tie 2 5 1 7;"
        + "tie 4 5 1 8;tie 1 4 3 1;tie 5 0 1 2;tie 6 0 1 9;slow 2;";

    private static void apart() {
        SaidBack x = Tapes.with(NET);
        int[][] due = {{0, 5, 2}, {0, 4, 2}, {0, 2, 1}, {5, 0, 1}, {5, 4, 1}, {1, 5, 2}, {0, 6, 0}, {6, 5, 1}, {3, 1, 1}};
        long[] cuts = {3, 3, 1, 128, 128, 68, 0, 256, 8};
        for (int i = 0; i < due.length; i++) {
            int from = due[i][0];
            int to = due[i][1];
            DUE.is("20: " + from + " to " + to, x.apart(0, from, to), due[i][2]);
            DUE.is("21: " + from + " to " + to, x.cut(0, from, to), cuts[i]);
        }
        // one way takes the middle tie, the second one gives it back
        x = Tapes.with("people 4;tie 0 1 1 1;tie 1 2 1 1;tie 2 3 1 1;tie 0 2 1 1;tie 1 3 1 1;");
        DUE.is("20: a tie given back", x.apart(0, 0, 3), 2);
        DUE.is("21: a tie given back", x.cut(0, 0, 3), 9);
        // several ties of the same two; the nearest cut, not the farther one of as many
        x = Tapes.with("people 4;tie 0 1 1 1;tie 0 1 1 1;tie 1 2 1 1;tie 1 2 1 1;tie 1 2 1 1;tie 2 3 1 1;tie 2 3 1 1;");
        DUE.is("20: several ties", x.apart(0, 1, 2), 3);
        DUE.is("20: in a row", x.apart(0, 0, 3), 2);
        DUE.is("21: the nearest one", x.cut(0, 0, 3), 3);
        DUE.is("21: of the middle", x.cut(0, 1, 2), 28);
        DUE.is("21: of the end", x.cut(0, 1, 3), 96);
        StringBuilder b = new StringBuilder();
        for (int i = 0; i < 40; i++) {
            b.append("tie 0 1 1 1;");
        }
        x = Tapes.with(b.toString());
        DUE.is("20: forty", x.apart(0, 0, 1), 40);
        DUE.is("21: forty", x.cut(0, 0, 1), (1L << 40) - 1);
        DUE.is("20: not back", x.apart(0, 1, 0), 0);
        DUE.is("21: not back", x.cut(0, 1, 0), 0L);
    }

    private static void soon() {
        SaidBack x = Tapes.with(NET);
        int[][] due = {{0, 5, 3, 9}, {0, 4, 3, 7}, {1, 4, 3, 5}, {5, 4, 4, 10}, {6, 2, 3, 9}, {0, 6, -1, -1}, {3, 2, 5, 15}};
        for (int[] d : due) {
            DUE.is("22: " + d[0] + " to " + d[1], x.soon(0, d[0], d[1], false), d[2]);
            DUE.is("22: denied, " + d[0] + " to " + d[1], x.soon(0, d[0], d[1], true), d[3]);
        }
        // by fewer ties the denial is sooner, by more the word
        x = Tapes.with("people 4;tie 0 3 3 1;tie 0 3 2 1;tie 1 2 1 1;tie 1 3 3 1;tie 2 3 1 1;slow 3;");
        DUE.is("22: the shorter tie", x.soon(0, 0, 3, false), 2);
        DUE.is("22: the word by two ties", x.soon(0, 1, 3, false), 2);
        DUE.is("22: the denial by one", x.soon(0, 1, 3, true), 6);
        StringBuilder b = new StringBuilder("people 16;slow 3;");
        for (int i = 15; i > 0; i--) {
            b.append("tie ").append(i).append(' ').append(i - 1).append(" 3 1;");
        }
        x = Tapes.with(b.toString());
        DUE.is("22: the longest way", x.soon(0, 15, 0, false), 45);
        DUE.is("22: the longest way, denied", x.soon(0, 15, 0, true), 90);
        DUE.is("20: the longest way", x.apart(0, 15, 0), 1);
        DUE.is("21: the longest way", x.cut(0, 15, 0), 1);
        DUE.is("23: the longest way", x.reach(0, 15, 0), 65535);
    }

    private static void reach() {
        SaidBack x = Tapes.with(NET);
        int[] reach = {63, 63, 63, 63, 63, 63, 127};
        int[] core = {63, 63, 63, 63, 63, 63, 64};
        int[] ear = {11, 3, 5, 4, 7, 15, 0};
        for (int p = 0; p < 7; p++) {
            DUE.is("23: reach of " + p, x.reach(0, p, 0), reach[p]);
            DUE.is("23: core of " + p, x.reach(0, p, 1), core[p]);
            DUE.is("23: ear of " + p, x.reach(0, p, 2), ear[p]);
        }
        x = Tapes.with("people 4;tie 0 1 1 9;tie 1 0 1 9;tie 1 2 1 9;tie 3 2 1 1;tie 1 2 1 9;");
        int[][] due = {{7, 3, 9}, {7, 3, 9}, {4, 4, 19}, {12, 8, 0}};
        for (int p = 0; p < 4; p++) {
            for (int what = 0; what < 3; what++) {
                DUE.is("23: " + what + " of " + p, x.reach(0, p, what), due[p][what]);
            }
            DUE.is("23: no what 3", x.reach(0, p, 3), -1);
        }
        DUE.is("23: no person 4", x.reach(0, 4, 0), -1);
        DUE.is("23: no village 1", x.reach(1, 0, 0), -1);
        for (int edge : EDGES) {
            DUE.is("23: village " + edge, x.reach(edge, 0, 0), -1);
            DUE.is("23: person " + edge, x.reach(0, edge, 0), -1);
            DUE.is("23: what " + edge, x.reach(0, 0, edge), -1);
        }
    }

    private static void loud() {
        DUE.is("24: of several the least", Tapes.with(NET).loud(0), 0);
        DUE.is("24: of several the least, not the first told", Tapes.with("people 3;tie 2 0 1 1;tie 1 2 1 1;").loud(0), 1);
        DUE.is("24: most", Tapes.with("people 4;tie 0 1 1 9;tie 3 1 1 1;tie 3 2 1 1;").loud(0), 3);
        DUE.is("24: most others, not most ties",
            Tapes.with("people 4;tie 0 1 1 9;tie 0 1 1 9;tie 0 1 1 9;tie 3 1 1 1;tie 3 2 1 1;").loud(0), 3);
        DUE.is("24: no ties", Tapes.with("people 4;").loud(0), -1);
        SaidBack x = Tapes.with(NET);
        DUE.is("24: no village 1", x.loud(1), -1);
        for (int edge : EDGES) {
            DUE.is("24: village " + edge, x.loud(edge), -1);
        }
    }

    private static void wrong() {
        SaidBack x = Tapes.with(NET);
        int[] edges = {Integer.MIN_VALUE, -2, -1, 7, 16, Integer.MAX_VALUE};
        for (int edge : edges) {
            for (int p = 0; p < 7; p++) {
                DUE.is("20: " + edge, x.apart(0, edge, p) + x.apart(0, p, edge), -2);
                DUE.is("21: " + edge, x.cut(0, edge, p) + x.cut(0, p, edge), -2);
                DUE.is("22: " + edge, x.soon(0, edge, p, false) + x.soon(0, p, edge, true), -2);
            }
            DUE.is("20: village " + edge, x.apart(edge, 0, 1), -1);
            DUE.is("21: village " + edge, x.cut(edge, 0, 1), -1);
            DUE.is("22: village " + edge, x.soon(edge, 0, 1, false), -1);
        }
        for (int p = 0; p < 7; p++) {
            DUE.is("20: both are one", x.apart(0, p, p), -1);
            DUE.is("21: both are one", x.cut(0, p, p), -1);
            DUE.is("22: both are one", x.soon(0, p, p, false), -1);
            DUE.is("22: both are one, denied", x.soon(0, p, p, true), -1);
        }
        DUE.is("20: no village 1", x.apart(1, 0, 1), -1);
    }

    public static void main(String[] args) {
        apart();
        soon();
        reach();
        loud();
        wrong();
        DUE.end();
    }
}
