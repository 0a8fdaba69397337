/**
 * Term 4 without its draws, and promises 20 to 24 at their boundaries: for each sentence that names one a method, which asks at
 * the boundary, just inside it and just outside it. (Wrong arguments: ArgumentEdgesTest.)
 */
public final class WayEdgesTest {
    private static final Due DUE = new Due("WayEdgesTest");

    private static String times(String line, int n) {
        StringBuilder b = new StringBuilder();
        for (int i = 0; i < n; i++) {
            b.append(line);
        }
        return b.toString();
    }

    /** A row of 16, each tied to the next one; told from its end on, if so. */
    private static String row(boolean fromEnd) {
        StringBuilder b = new StringBuilder("people 16;slow 3;");
        for (int i = 0; i < 15; i++) {
            int p = fromEnd ? 14 - i : i;
            b.append("tie ").append(p).append(' ').append(p + 1).append(" 3 1;");
        }
        return b.toString();
    }

    /** "APART: the most WAYS no two of which share a TIE": none, one, 40. */
    private static void noneToForty() {
        for (int n : new int[] {0, 1, 2, 39, 40}) {
            SaidBack x = Tapes.with(times("tie 0 1 1 1;", n));
            DUE.is("20: " + n + " ties", x.apart(0, 0, 1), n);
            DUE.is("21: " + n + " ties", x.cut(0, 0, 1), (1L << n) - 1);
            DUE.is("20: " + n + " ties, back", x.apart(0, 1, 0), 0);
            DUE.is("21: " + n + " ties, back", x.cut(0, 1, 0), 0L);
            DUE.is("22: " + n + " ties", x.soon(0, 0, 1, false), n == 0 ? -1 : 1);
            DUE.is("22: " + n + " ties, back", x.soon(0, 1, 0, true), -1);
            DUE.is("23: " + n + " ties", x.reach(0, 0, 0), n == 0 ? 1 : 3);
            DUE.is("23: " + n + " ties, back", x.reach(0, 1, 0), 2);
            DUE.is("23: " + n + " ties, both ways", x.reach(0, 0, 1), 1);
            DUE.is("24: " + n + " ties", x.loud(0), n == 0 ? -1 : 0);
        }
    }

    /** "both are one": of everybody; "NONE: there is no WAY" of soon alone, 0 of apart, none of cut. */
    private static void bothAreOne() {
        for (int people : new int[] {1, 2, 16}) {
            SaidBack x = Tapes.with("people " + people + ";" + (people == 1 ? "" : "tie 0 1 1 1;tie 1 0 1 1;"));
            for (int p = 0; p < people; p++) {
                DUE.is("20: both " + p, x.apart(0, p, p), -1);
                DUE.is("21: both " + p, x.cut(0, p, p), -1L);
                DUE.is("22: both " + p, x.soon(0, p, p, false), -1);
                DUE.is("22: both " + p + ", denied", x.soon(0, p, p, true), -1);
                DUE.is("23: himself, too, " + p, x.reach(0, p, 0) >> p & 1, 1);
                DUE.is("23: himself, both ways, too, " + p, x.reach(0, p, 1) >> p & 1, 1);
            }
        }
    }

    /** The longest way: 15 ties, in whichever order they are told. */
    private static void longestWay() {
        for (boolean fromEnd : new boolean[] {false, true}) {
            SaidBack x = Tapes.with(row(fromEnd));
            for (int to = 1; to < 16; to++) {
                DUE.is("20: to " + to, x.apart(0, 0, to), 1);
                DUE.is("21: to " + to, x.cut(0, 0, to), fromEnd ? 1L << 14 : 1L);
                DUE.is("22: to " + to, x.soon(0, 0, to, false), 3 * to);
                DUE.is("22: to " + to + ", denied", x.soon(0, 0, to, true), 6 * to);
                DUE.is("20: back from " + to, x.apart(0, to, 0), 0);
                DUE.is("22: back from " + to, x.soon(0, to, 0, true), -1);
            }
            for (int p = 0; p < 16; p++) {
                DUE.is("23: from " + p, x.reach(0, p, 0), 65535 & -1 << p);
                DUE.is("23: from and to " + p, x.reach(0, p, 1), 1 << p);
                DUE.is("23: ear of " + p, x.reach(0, p, 2), p == 0 ? 0 : 1);
            }
            // with a way back from the last one to the first one all are one core
            x = Tapes.with(row(fromEnd) + "tie 15 0 1 1;");
            for (int p = 0; p < 16; p++) {
                DUE.is("23: round, from " + p, x.reach(0, p, 0), 65535);
                DUE.is("23: round, core of " + p, x.reach(0, p, 1), 65535);
            }
            DUE.is("22: round", x.soon(0, 1, 0, false), 43);
            DUE.is("22: round, denied", x.soon(0, 1, 0, true), 88);
            DUE.is("21: round", x.cut(0, 1, 0), fromEnd ? 1L << 13 : 2L);
        }
    }

    /** "TIES, taken, can be gone back, those not taken forward": a tie that is given back can be taken again. */
    private static void givenBack() {
        // the ways are found by 1 and 2; then by 2 and, back, 1; then by 4, 1, 2, 5
        SaidBack x = Tapes.with("people 6;tie 0 1 1 1;tie 1 2 1 1;tie 2 3 1 1;tie 0 2 1 1;tie 1 3 1 1;tie 4 1 1 1;tie 0 4 1 1;"
            + "tie 5 3 1 1;tie 2 5 1 1;");
        DUE.is("20: a third way", x.apart(0, 0, 3), 3);
        DUE.is("21: a third way", x.cut(0, 0, 3), 1L | 8L | 64L);
        x = Tapes.with("people 4;tie 0 1 1 1;tie 1 2 1 1;tie 2 3 1 1;tie 0 2 1 1;tie 1 3 1 1;");
        DUE.is("20: a second way", x.apart(0, 0, 3), 2);
        DUE.is("21: a second way", x.cut(0, 0, 3), 9L);
        // by the tie that is taken back one comes to 1, and no farther
        x = Tapes.with("people 5;tie 0 1 1 1;tie 1 2 1 1;tie 0 3 1 1;tie 3 2 1 1;tie 2 4 1 1;");
        DUE.is("20: all by one tie", x.apart(0, 0, 4), 1);
        DUE.is("21: all that one comes to, back, too", x.cut(0, 0, 4), 16L);
    }

    /** "that lead out of all that one comes to from the first one": of several cuts the one nearest to him. */
    private static void nearestCut() {
        SaidBack x = Tapes.with("people 4;tie 0 1 1 1;tie 1 2 1 1;tie 2 3 1 1;");
        DUE.is("21: the first of three", x.cut(0, 0, 3), 1L);
        DUE.is("21: the second of three", x.cut(0, 1, 3), 2L);
        DUE.is("21: the last of three", x.cut(0, 2, 3), 4L);
        x = Tapes.with("people 4;tie 0 1 1 1;tie 0 1 1 1;tie 1 2 1 1;tie 2 3 1 1;tie 2 3 1 1;");
        DUE.is("21: where it is narrow", x.cut(0, 0, 3), 4L);
        // out of what one comes to alone: not into it, not beside it
        x = Tapes.with("people 5;tie 2 0 1 1;tie 0 1 1 1;tie 1 2 1 1;tie 2 1 1 1;tie 3 1 1 1;tie 4 3 1 1;");
        DUE.is("21: out of it alone", x.cut(0, 0, 2), 2L);
        x = Tapes.with(times("tie 1 0 1 1;", 39) + "tie 0 1 1 1;");
        DUE.is("21: the 40th tie", x.cut(0, 0, 1), 1L << 39);
        DUE.is("21: all but the 40th", x.cut(0, 1, 0), (1L << 39) - 1);
    }

    /** "SOON: the fewest days .. for the WORD, or for the DENIAL": of DAYS 1 .. 3 and SLOW 0 .. 3. */
    private static void soon() {
        for (int days = 1; days <= 3; days++) {
            for (int slow = 0; slow <= 3; slow++) {
                SaidBack x = Tapes.with("people 4;slow " + slow + ";tie 0 1 " + days + " 1;tie 1 2 1 1;tie 0 2 3 1;tie 2 3 1 9;");
                DUE.is("22: days " + days, x.soon(0, 0, 1, false), days);
                DUE.is("22: days " + days + ", slow " + slow, x.soon(0, 0, 1, true), days + slow);
                DUE.is("22: by two ties or one, days " + days, x.soon(0, 0, 2, false), Math.min(days + 1, 3));
                DUE.is("22: by two ties or one, slow " + slow, x.soon(0, 0, 2, true), Math.min(days + 1 + 2 * slow, 3 + slow));
                DUE.is("22: on from there, slow " + slow, x.soon(0, 0, 3, true), Math.min(days + 2 + 3 * slow, 4 + 2 * slow));
            }
        }
        SaidBack x = Tapes.with("tires 1 1;doubt 1 99;tie 0 1 2 1;", "wall 0 0 99;");
        DUE.is("22: whatever anybody says", x.soon(0, 0, 1, false), 2);
    }

    /** "EAR of one: STRENGTHS of TIES to him": of none, of 40; not of ties told once, of another village. */
    private static void ear() {
        for (int n : new int[] {0, 1, 2, 39, 40}) {
            SaidBack x = Tapes.with("people 3;" + times("tie 2 1 1 9;", n));
            int[] due = {0, 9 * n, 0};
            for (int p = 0; p < 3; p++) {
                DUE.is("23: ear of " + p + ", " + n + " ties", x.reach(0, p, 2), due[p]);
            }
            // of the ties that stood in its place, and in the other village
            Tapes.tell(x, Tapes.VILLAGE, "people 3;tie 0 1 1 1;");
            DUE.is("23: ear in the other village", x.reach(1, 1, 2), 1);
            DUE.is("23: reach in the other village", x.reach(1, 2, 0), 4);
            DUE.is("20: in the other village", x.apart(1, 2, 1), 0);
            DUE.is("24: in the other village", x.loud(1), 0);
            Tapes.feed(x, "people 3;");
            x.text(0, 0);
            for (int p = 0; p < 3; p++) {
                DUE.is("23: no ear of " + p, x.reach(0, p, 2), 0);
                DUE.is("23: no reach of " + p, x.reach(0, p, 0), 1 << p);
            }
            DUE.is("24: no ties any more", x.loud(0), -1);
        }
        SaidBack x = Tapes.with("people 3;tie 0 1 1 1;tie 2 1 1 2;tie 1 0 1 4;");
        DUE.is("23: of all who tell him", x.reach(0, 1, 2), 3);
        DUE.is("23: of the one who tells him", x.reach(0, 0, 2), 4);
    }

    /** "CORE: PEOPLE (bits) from whom and to whom there are WAYS to and from one, himself, too." */
    private static void core() {
        SaidBack x = Tapes.with("people 5;tie 0 1 1 1;tie 1 0 1 1;tie 1 2 1 1;tie 2 3 1 1;tie 3 2 1 1;");
        int[] core = {3, 3, 12, 12, 16};
        int[] reach = {15, 15, 12, 12, 16};
        for (int p = 0; p < 5; p++) {
            DUE.is("23: core of " + p, x.reach(0, p, 1), core[p]);
            DUE.is("23: reach of " + p, x.reach(0, p, 0), reach[p]);
        }
    }

    /** "LOUD: the one from whom TIES lead to most others; of several the least"; "NONE: there are no TIES". */
    private static void loud() {
        String[][] due = {{"people 16;", "-1"}, {"people 16;tie 15 0 1 1;", "15"}, {"people 16;tie 15 0 1 1;tie 0 15 1 1;", "0"},
            {"people 3;tie 2 0 1 1;tie 2 1 1 1;tie 0 1 1 1;", "2"}, {"people 3;tie 2 0 1 1;tie 1 0 1 1;", "1"},
            {"people 3;tie 2 1 1 1;tie 2 1 1 1;tie 1 0 1 9;", "1"}, {"people 1;", "-1"},
            {"people 4;tie 3 0 1 1;tie 3 1 1 1;tie 3 2 1 1;tie 0 1 1 1;tie 0 2 1 1;tie 0 1 1 1;tie 0 2 1 1;", "3"}};
        for (String[] one : due) {
            DUE.is("24: '" + one[0] + "'", Tapes.with(one[0]).loud(0), Integer.parseInt(one[1]));
        }
        StringBuilder b = new StringBuilder("people 16;tie 0 1 1 1;");
        for (int p = 0; p < 15; p++) {
            b.append("tie 15 ").append(p).append(" 1 1;");
        }
        DUE.is("24: to all others", Tapes.with(b.toString()).loud(0), 15);
    }

    public static void main(String[] args) {
        noneToForty();
        bothAreOne();
        longestWay();
        givenBack();
        nearestCut();
        soon();
        ear();
        core();
        loud();
        DUE.end();
    }
}
