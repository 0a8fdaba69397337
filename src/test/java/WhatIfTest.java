/** Promises 14 to 19, 25 to 28 and 32 to 37: what-ifs that one can follow by hand. */
public final class WhatIfTest {
    private static final Due DUE = new Due("WhatIfTest");
    private static final int[] EDGES = {Integer.MIN_VALUE, -3, -2, 999, Integer.MAX_VALUE};

    private static final String CHAIN = "people 4;tie 0 1 1 5;tie 1 2 2 5;tie 2 3 1 5;";
    private static final String ROUND = "people 3;till 0 1 2;tie 0 1 1 5;tie 1 2 1 5;tie 2 0 1 5;";
    /** Told the word, then denied it: it goes to and fro for ever. */
    private static final String SWAP = "people 2;last 0 1;tie 0 1 1 5;tie 1 0 1 5;";
    private static final String TO_AND_FRO = "word 0 0;deny 1 0;";
    /** Three who tell nobody. */
    private static final String LONELY = "people 3;till 0 1 2;";

    private static void cure() {
        SaidBack x = Tapes.with(ROUND, "word 0 0;", "word 0 0;deny 9 1;");
        for (int day = 0; day < 100; day += 33) {
            DUE.is("14: by none " + day, x.cure(0, 0, day, 0), -1);
            for (int n = 1; n < 4; n++) {
                DUE.is("14: by one " + day + " " + n, x.cure(0, 0, day, n), 1);
            }
        }
        DUE.is("14: clean anyway", x.cure(0, 1, 50, 0), 0);
        DUE.is("14: clean anyway, by three", x.cure(0, 1, 50, 3), 0);
        DUE.is("14: without acts", x.cure(0, -1, 50, 3), 0);

        x = Tapes.with("people 4;till 0 1 2 3;", "word 0 1;word 0 2;word 0 3;", "word 0 0;word 0 2;");
        DUE.is("14: all three", x.cure(0, 0, 4, 3), 14);
        DUE.is("14: no two", x.cure(0, 0, 4, 2), -1);
        DUE.is("14: two", x.cure(0, 1, 4, 2), 5);
        DUE.is("14: no one", x.cure(0, 1, 4, 1), -1);
        // of {2}, {0, 1}, {0, 2} the fewest; of {1}, {2} the least
        x = Tapes.with("people 3;till 0 1 2;tie 2 1 1 9;tie 1 2 1 9;", "word 0 2;");
        DUE.is("14: the least", x.cure(0, 0, 5, 3), 2);
        x = Tapes.with("people 3;till 0 1 2;tie 2 1 1 9;", "word 0 2;");
        DUE.is("14: the fewest", x.cure(0, 0, 5, 3), 4);

        // as much on the same day is the word, for ever
        x = Tapes.with("people 2;tie 0 1 1 5;", "word 3 0;");
        DUE.is("14: in time", x.cure(0, 0, 2, 1), 1);
        DUE.is("14: too late", x.cure(0, 0, 3, 3), -1);
        DUE.is("14: far too late", x.cure(0, 0, 99, 3), -1);
        wrongCures(x);
    }

    private static void wrongCures(SaidBack x) {
        DUE.is("14: no day 100", x.cure(0, 0, 100, 1), -1);
        DUE.is("14: no day -1", x.cure(0, 0, -1, 1), -1);
        DUE.is("14: no n 4", x.cure(0, -1, 0, 4), -1);
        DUE.is("14: no n -1", x.cure(0, -1, 0, -1), -1);
        DUE.is("14: no telling 1", x.cure(0, 1, 0, 1), -1);
        DUE.is("14: no village 1", x.cure(1, -1, 0, 1), -1);
        DUE.is("33: no day 100", x.cures(0, -1, 100, 0), -1);
        DUE.is("33: no day -1", x.cures(0, -1, -1, 0), -1);
        DUE.is("33: no n 3", x.cures(0, -1, 0, 3), -1);
        DUE.is("33: no n -1", x.cures(0, -1, 0, -1), -1);
        DUE.is("33: no telling 1", x.cures(0, 1, 0, 0), -1);
        DUE.is("33: no village 1", x.cures(1, -1, 0, 0), -1);
        DUE.is("15: no n 3", x.late(0, -1, 3), -1);
        DUE.is("15: no n -1", x.late(0, -1, -1), -1);
        DUE.is("15: no telling 1", x.late(0, 1, 0), -1);
        DUE.is("15: no village 1", x.late(1, -1, 0), -1);
        DUE.is("32: no day 91", x.often(0, -1, 91, 0), -1);
        DUE.is("32: no day -1", x.often(0, -1, -1, 0), -1);
        DUE.is("32: no person 2", x.often(0, -1, 0, 2), -1);
        DUE.is("32: no telling 1", x.often(0, 1, 0, 0), -1);
        DUE.is("32: no village 1", x.often(1, -1, 0, 0), -1);
        DUE.is("27: no day 100", x.barred(0, -1, 100, 0), -1);
        DUE.is("27: no day -1", x.barred(0, -1, -1, 0), -1);
        DUE.is("27: no n 3", x.barred(0, -1, 0, 3), -1);
        DUE.is("27: no n -1", x.barred(0, -1, 0, -1), -1);
        DUE.is("27: no telling 1", x.barred(0, 1, 0, 0), -1);
        DUE.is("27: no village 1", x.barred(1, -1, 0, 0), -1);
        for (int edge : EDGES) {
            DUE.is("14: " + edge, x.cure(edge, 0, 0, 0) + x.cure(0, edge, 0, 0) + x.cure(0, -1, edge, 0)
                + x.cure(0, -1, 0, edge), -4);
            DUE.is("33: " + edge, x.cures(edge, 0, 0, 0) + x.cures(0, edge, 0, 0) + x.cures(0, -1, edge, 0)
                + x.cures(0, -1, 0, edge), -4);
            DUE.is("15: " + edge, x.late(edge, 0, 0) + x.late(0, edge, 0) + x.late(0, -1, edge), -3);
            DUE.is("32: " + edge, x.often(edge, 0, 0, 0) + x.often(0, edge, 0, 0) + x.often(0, -1, edge, 0)
                + x.often(0, -1, 0, edge), -4);
            DUE.is("27: " + edge, x.barred(edge, 0, 0, 0) + x.barred(0, edge, 0, 0) + x.barred(0, -1, edge, 0)
                + x.barred(0, -1, 0, edge), -4);
        }
    }

    private static void late() {
        SaidBack x = Tapes.with("people 2;tie 0 1 1 5;", "word 3 0;", "word 3 0;word 1 1;", "word 0 0;");
        DUE.is("15: by none", x.late(0, 0, 0), -1);
        DUE.is("15: by one", x.late(0, 0, 1), 2);
        DUE.is("15: by two", x.late(0, 0, 2), 2);
        DUE.is("15: two began, by one", x.late(0, 1, 1), -1);
        DUE.is("15: two began, by two", x.late(0, 1, 2), 0);
        DUE.is("15: never", x.late(0, 2, 2), -1);
        DUE.is("15: clean anyway", x.late(0, -1, 0), 40);
        x = Tapes.with(ROUND, "word 0 0;");
        DUE.is("15: any day", x.late(0, 0, 1), 40);
        DUE.is("15: any day, by none", x.late(0, 0, 0), -1);
    }

    private static void cures() {
        SaidBack x = Tapes.with(ROUND, "word 0 0;", "word 0 0;deny 9 1;");
        int[] due = {0, 3, 3};
        int[] clean = {1, 3, 3};
        for (int n = 0; n < 3; n++) {
            DUE.is("33: " + n, x.cures(0, 0, 4, n), due[n]);
            DUE.is("33: day 99 " + n, x.cures(0, 0, 99, n), due[n]);
            DUE.is("33: clean anyway " + n, x.cures(0, 1, 50, n), clean[n]);
        }
        x = Tapes.with(LONELY, "word 0 2;");
        DUE.is("33: of one", x.cures(0, 0, 9, 1), 1);
        DUE.is("33: of two", x.cures(0, 0, 9, 2), 2);
        x = Tapes.with("people 1;till 0;", "word 0 0;");
        DUE.is("33: of more than there are", x.cures(0, 0, 9, 2), 0);
    }

    private static String times(String act, int n) {
        StringBuilder b = new StringBuilder();
        for (int i = 0; i < n; i++) {
            b.append(act);
        }
        return b.toString();
    }

    private static void often() {
        SaidBack x = Tapes.with("people 2;most 0;till 1;", times("word 0 0;", 3), times("word 0 0;", 8), times("word 0 0;", 9));
        DUE.is("32: four against three", x.often(0, 0, 1, 0), 4);
        DUE.is("32: from the same day on", x.often(0, 0, 0, 0), 4);
        DUE.is("32: from day 90 on", x.often(0, 0, 90, 0), 4);
        DUE.is("32: nine against eight", x.often(0, 1, 20, 0), 9);
        DUE.is("32: not ten against nine", x.often(0, 2, 20, 0), -1);
        DUE.is("32: not by another one", x.often(0, 0, 1, 1), -1);
        DUE.is("32: once, if it is clean anyway", x.often(0, -1, 1, 1), 1);
        // 1 says the word on days 3 and 4, it comes to 0 on days 4 and 5
        String two = "people 2;last 0 1;tie 1 0 1 9;tires 2 1;";
        x = Tapes.with(two, "word 3 1;deny 5 1;wall 0 5 99;");
        DUE.is("32: behind the word", x.often(0, 0, 6, 0), 1);
        DUE.is("32: with the word, as much", x.often(0, 0, 5, 0), 2);
        DUE.is("32: ahead of the word", x.often(0, 0, 2, 0), 4);
        DUE.is("32: farther ahead of it", x.often(0, 0, 0, 0), 6);
    }

    private static void barred() {
        SaidBack x = Tapes.with(SWAP, TO_AND_FRO);
        DUE.is("27: by none", x.barred(0, 0, 0, 0), -1);
        DUE.is("27: the least", x.barred(0, 0, 0, 1), 1);
        // what 0 said on day 0 still comes to 1, who holds for ever without 0
        DUE.is("27: what is on the way comes", x.barred(0, 0, 1, 1), 2);
        DUE.is("27: on day 2", x.barred(0, 0, 2, 1), 1);
        DUE.is("27: on day 99", x.barred(0, 0, 99, 2), 2);
        DUE.is("27: clean anyway", x.barred(0, -1, 50, 0), 0L);
        DUE.is("27: clean anyway, by two", x.barred(0, -1, 50, 2), 0L);
        // two ties between them each way: both of one way
        x = Tapes.with("people 3;tie 0 2 1 5;tie 0 1 1 5;tie 1 0 1 5;tie 0 1 1 5;tie 1 0 1 5;last 0 1;", TO_AND_FRO + "deny 0 2;");
        DUE.is("27: no one alone", x.barred(0, 0, 0, 1), -1);
        DUE.is("27: both of a way", x.barred(0, 0, 0, 2), 10L);
        DUE.is("27: both of the other", x.barred(0, 0, 1, 2), 20L);
        // the 40th tie has the 39th bit
        x = Tapes.with("people 2;last 0 1;" + times("tie 1 0 3 1;", 38) + "tie 0 1 1 1;tie 1 0 1 9;", "");
        DUE.is("27: no ties of none", x.barred(0, 0, 0, 2), 0L);
        StringBuilder b = new StringBuilder("people 3;last 0 1;");
        b.append(times("tie 1 2 1 1;", 38)).append("tie 0 1 1 5;tie 1 0 1 5;till 2;");
        x = Tapes.with(b.toString(), TO_AND_FRO + "deny 0 2;");
        DUE.is("27: 40 ties", x.village(0, 1), 40);
        DUE.is("27: the 39th", x.barred(0, 0, 0, 2), 1L << 38);
        DUE.is("27: the 40th", x.barred(0, 0, 1, 1), 1L << 39);
        x = Tapes.with("people 1;", "word 0 0;");
        DUE.is("27: no ties", x.barred(0, 0, 0, 2), -1);
    }

    private static void join() {
        SaidBack x = Tapes.with(LONELY, "word 0 0;deny 0 2;");
        DUE.is("28: from", x.join(0, 0, false), 2);
        DUE.is("28: to", x.join(0, 0, true), 0);
        DUE.is("28: clean anyway", x.join(0, -1, false), 0);
        DUE.is("28: clean anyway, to", x.join(0, -1, true), 1);
        x = Tapes.with(LONELY + "doubt 0 9;", "deny 0 1;word 0 0;deny 0 2;");
        DUE.is("28: the first one", x.join(0, 0, false), 1);
        DUE.is("28: the first one, to", x.join(0, 0, true), 0);
        x = Tapes.with(LONELY + "doubt 0 10;", "deny 0 1;word 0 0;word 0 0;deny 0 2;");
        DUE.is("28: of strength 9", x.join(0, 0, false), -1);
        DUE.is("28: of strength 9, to", x.join(0, 0, true), -1);
        // of one day: the denial comes on day 1, with the slow word's one
        x = Tapes.with("people 2;once 0;first 1;", "deny 0 0;word 2 1;");
        DUE.is("28: of one day", x.join(0, 0, false), 0);
        x = Tapes.with("people 2;once 0;first 1;", "deny 0 0;word 1 1;");
        DUE.is("28: as much is the word", x.join(0, 0, false), -1);
        x = Tapes.with("people 2;till 0 1;" + times("tie 0 1 1 1;", 40), "word 0 0;deny 0 1;");
        DUE.is("28: behind 40 ties", x.join(0, 0, false), 1);
        DUE.is("28: there are still 40", x.village(0, 1), 40);
        besideWalls();
        DUE.is("28: no one else", Tapes.with("people 1;", "word 0 0;").join(0, 0, false), -1);
        for (boolean to : new boolean[] {false, true}) {
            DUE.is("28: no telling 1", x.join(0, 1, to), -1);
            DUE.is("28: no village 1", x.join(1, -1, to), -1);
            for (int edge : EDGES) {
                DUE.is("28: village " + edge, x.join(edge, -1, to), -1);
                DUE.is("28: telling " + edge, x.join(0, edge, to), -1);
            }
        }
    }

    /** Of a tie that is not there a wall does nothing, and not to the further one; of one that is there it does. */
    private static void besideWalls() {
        // the denial is said on day 0 alone: behind a wall of that day it comes to nobody
        String once = LONELY + "tires 0 1;";
        SaidBack x = Tapes.with(once, "word 0 0;deny 0 2;wall 0 0 0;", "word 0 0;deny 0 2;wall 1 0 0;wall 0 0 0;");
        DUE.is("28: beside a wall of no tie", x.join(0, 0, false), 2);
        DUE.is("28: beside a wall of no tie, to", x.join(0, 0, true), 0);
        Tapes.tell(x, Tapes.VILLAGE, once + "tie 2 0 1 9;");
        DUE.is("11: a wall of a tie", x.run(1, 0, 2), 0);
        DUE.is("28: past a walled tie", x.join(1, 0, false), 2);
        DUE.is("28: past a walled tie, beside a wall of no tie", x.join(1, 1, false), 2);
        DUE.is("28: past a walled tie, beside a wall of no tie, to", x.join(1, 1, true), 0);
        DUE.is("28: told again of the first one", x.join(0, 1, false), 2);
        x = Tapes.with("people 2;till 0 1;tires 0 1;" + times("tie 0 1 1 1;", 39), "word 0 0;deny 0 1;wall 39 0 9;");
        DUE.is("28: the 40th tie, beside a wall of it", x.join(0, 0, false), 1);
    }

    private static void begun(SaidBack x, String what, int telling, int day, int holders, int... due) {
        DUE.is("16: " + what + ", how many", x.begun(0, telling, day, holders, -1), due.length);
        for (int k = 0; k < due.length; k++) {
            DUE.is("16: " + what + ", " + k, x.begun(0, telling, day, holders, k), due[k]);
        }
        DUE.is("16: " + what + ", no more", x.begun(0, telling, day, holders, due.length), -2);
    }

    private static void begun() {
        // of the telling its wall alone counts: 0 tells 1 from day 3 on
        SaidBack x = Tapes.with(CHAIN, "word 5 3;deny 0 0;wall 0 0 2;");
        begun(x, "all on day 4", -1, 4, 15, 1, 3, 5, 9);
        begun(x, "all on day 3", -1, 3, 15, 3, 5, 9);
        begun(x, "all but the first", -1, 9, 14, 2, 6, 10);
        begun(x, "the first day", -1, 0, 12, 12);
        begun(x, "no such", -1, 9, 2);
        begun(x, "nobody", -1, 9, 0);
        begun(x, "behind a wall", 0, 3, 1, 1);
        begun(x, "behind a wall, later", 0, 4, 3, 1);
        begun(x, "behind a wall, all", 0, 7, 15, 1, 3, 5, 9);
        begun(x, "day 99", 0, 99, 8, 8);
        x = Tapes.with("people 16;", "");
        begun(x, "the greatest", 0, 99, 1 << 15 | 1 << 14, 1 << 15 | 1 << 14);
        x = Tapes.with(CHAIN, "");
        for (int k = -1; k < 1; k++) {
            DUE.is("16: no day 100", x.begun(0, 0, 100, 15, k), -2);
            DUE.is("16: no day -1", x.begun(0, 0, -1, 15, k), -2);
            DUE.is("16: others than people", x.begun(0, 0, 9, 16, k), -2);
            DUE.is("16: others than people, below 0", x.begun(0, 0, 9, -1, k), -2);
            DUE.is("16: no telling 1", x.begun(0, 1, 9, 15, k), -2);
            DUE.is("16: no village 1", x.begun(1, 0, 9, 15, k), -2);
            for (int edge : EDGES) {
                DUE.is("16: village " + edge, x.begun(edge, 0, 9, 15, k), -2);
                DUE.is("16: telling " + edge, x.begun(0, edge, 9, 15, k), -2);
                DUE.is("16: day " + edge, x.begun(0, 0, edge, 15, k), -2);
                DUE.is("16: holders " + edge, x.begun(0, 0, 9, edge, k), -2);
            }
        }
        for (int edge : EDGES) {
            DUE.is("16: k " + edge, x.begun(0, 0, 9, 15, edge), -2);
        }
    }

    private static void origin(SaidBack x, int telling, int day, int holders, int who, int far) {
        DUE.is("17: day " + day + " " + holders, x.origin(0, telling, day, holders, false), who);
        DUE.is("17: far, day " + day + " " + holders, x.origin(0, telling, day, holders, true), far);
    }

    private static void origin() {
        SaidBack x = Tapes.with(CHAIN, "word 5 3;deny 0 0;wall 0 0 2;");
        origin(x, -1, 4, 15, 0, 0);
        origin(x, -1, 4, 14, 1, 0);
        origin(x, -1, 1, 15, 0, 2);
        origin(x, -1, 0, 0, 0, 1);
        origin(x, -1, 0, 8, 3, 0);
        origin(x, -1, 9, 5, 0, 2);
        origin(x, -1, 9, 11, 0, 1);
        origin(x, 0, 2, 15, 1, 2);
        origin(x, 0, 99, 15, 0, 0);
        for (boolean far : new boolean[] {false, true}) {
            DUE.is("17: no day 100", x.origin(0, 0, 100, 15, far), -1);
            DUE.is("17: no day -1", x.origin(0, 0, -1, 15, far), -1);
            DUE.is("17: others than people", x.origin(0, 0, 9, 16, far), -1);
            DUE.is("17: no telling 1", x.origin(0, 1, 9, 15, far), -1);
            DUE.is("17: no village 1", x.origin(1, 0, 9, 15, far), -1);
            for (int edge : EDGES) {
                DUE.is("17: village " + edge, x.origin(edge, 0, 9, 15, far), -1);
                DUE.is("17: telling " + edge, x.origin(0, edge, 9, 15, far), -1);
                DUE.is("17: day " + edge, x.origin(0, 0, edge, 15, far), -1);
                DUE.is("17: holders " + edge, x.origin(0, 0, 9, edge, far), -1);
            }
        }
    }

    private static void matters() {
        SaidBack x = Tapes.with(CHAIN, "word 0 0;", "word 0 1;");
        int[] due = {3, 2, 1, 0};
        int[] other = {0, 2, 1, 0};
        for (int p = 0; p < 4; p++) {
            DUE.is("18: of " + p, x.matters(0, 0, p), due[p]);
            DUE.is("18: of " + p + " by another one", x.matters(0, 1, p), other[p]);
            DUE.is("18: of " + p + " without acts", x.matters(0, -1, p), 0);
        }
        DUE.is("19: key", x.key(0, 0, false), 0);
        DUE.is("19: sever", x.key(0, 0, true), 0);
        DUE.is("19: key by another one", x.key(0, 1, false), 1);
        DUE.is("19: sever by another one", x.key(0, 1, true), 1);
        DUE.is("19: of several the least", x.key(0, -1, false), 0);
        DUE.is("19: of several ties the least", x.key(0, -1, true), 0);
        // without the denial of 0, on day 9, the others hold
        x = Tapes.with("people 3;till 0 1 2;tie 0 1 1 5;tie 0 2 1 5;", "word 0 1;word 0 2;deny 9 0;");
        DUE.is("18: below 0", x.matters(0, 0, 0), -2);
        DUE.is("18: none", x.matters(0, 0, 1), 0);
        DUE.is("19: not who heals", x.key(0, 0, false), 1);
        // at the end, on the ring's day, nobody holds
        x = Tapes.with("people 2;last 0 1;tie 0 1 1 5;", "word 0 0;deny 5 0;");
        DUE.is("18: on the ring's day", x.matters(0, 0, 0), 0);
        // without a ring, on day 200: 1 has it from day 103 on
        x = Tapes.with("people 2;most 1;tie 0 1 3 1;", "word 0 0;wall 0 0 99;");
        DUE.is("18: on day 200", x.matters(0, 0, 0), 1);
        DUE.is("19: no ties", Tapes.with("people 2;").key(0, -1, true), -1);
        DUE.is("19: no ties, but people", Tapes.with("people 2;").key(0, -1, false), 0);
        DUE.is("18: no person 2", x.matters(0, 0, 2), -1000);
        DUE.is("18: no telling 1", x.matters(0, 1, 0), -1000);
        DUE.is("18: no village 1", x.matters(1, 0, 0), -1000);
        for (boolean tie : new boolean[] {false, true}) {
            DUE.is("19: no telling 1", x.key(0, 1, tie), -1);
            DUE.is("19: no village 1", x.key(1, 0, tie), -1);
        }
        for (int edge : EDGES) {
            DUE.is("18: village " + edge, x.matters(edge, 0, 0), -1000);
            DUE.is("18: telling " + edge, x.matters(0, edge, 0), -1000);
            DUE.is("18: person " + edge, x.matters(0, 0, edge), -1000);
            DUE.is("19: village " + edge, x.key(edge, 0, false), -1);
            DUE.is("19: telling " + edge, x.key(0, edge, true), -1);
        }
    }

    private static void drawn() {
        // seed 0 draws 0, 6, 6; seed 1: 8, ..; seed 3: 5, ..; seed 7: 2, 6, 8; seed -1: 7, ..; -2^31: 8, ..
        SaidBack x = Tapes.with("people 4;tie 0 1 1 5;tie 1 2 1 7;tie 2 3 1 7;", "word 0 0;");
        int[] seeds = {0, 1, 3, 7, -1, Integer.MIN_VALUE};
        int[] due = {15, 1, 1, 7, 1, 1};
        for (int i = 0; i < seeds.length; i++) {
            DUE.is("25: seed " + seeds[i], x.drawn(0, 0, seeds[i], 200, 0), due[i]);
            DUE.is("25: clean, seed " + seeds[i], x.drawn(0, 0, seeds[i], 200, 1), 0);
            DUE.is("25: day 0, seed " + seeds[i], x.drawn(0, 0, seeds[i], 0, 0), 1);
        }
        DUE.is("25: day 2", x.drawn(0, 0, 0, 2, 0), 7);
        DUE.is("25: without acts", x.drawn(0, -1, 0, 2, 1), 1);
        DUE.is("26: holders of seeds 0, 1", x.worlds(0, 0, 0, 2, 200, true), 5);
        DUE.is("26: holders of seeds -1, 0", x.worlds(0, 0, -1, 2, 200, true), 5);
        DUE.is("26: clean ones", x.worlds(0, 0, -1, 20, 200, false), 0);
        DUE.is("26: clean ones without acts", x.worlds(0, -1, -1, 20, 0, false), 20);
        DUE.is("26: seeds go round", x.worlds(0, 0, Integer.MAX_VALUE, 2, 0, true), 2);
        // the seeds 6 to 10 draw 4 5, 2 6, 4 2, 2 3, 1 4: it goes to and fro unless a tie is dead
        x = Tapes.with(SWAP, TO_AND_FRO);
        int[] clean = {1, 1, 0, 0, 0};
        int sum = 0;
        for (int i = 0; i < 5; i++) {
            sum += clean[i];
            DUE.is("25: clean, seed " + (6 + i), x.drawn(0, 0, 6 + i, 77, 1), clean[i]);
            DUE.is("26: clean, " + (1 + i), x.worlds(0, 0, 6, 1 + i, 0, false), sum);
        }
        wrongDraws(x);
    }

    private static void wrongDraws(SaidBack x) {
        for (int what = 0; what < 2; what++) {
            DUE.is("25: no day 201", x.drawn(0, 0, 6, 201, what), -1);
            DUE.is("25: no day -1", x.drawn(0, 0, 6, -1, what), -1);
            DUE.is("25: no telling 1", x.drawn(0, 1, 6, 0, what), -1);
            DUE.is("25: no village 1", x.drawn(1, 0, 6, 0, what), -1);
            DUE.is("26: no day 201", x.worlds(0, 0, 6, 1, 201, what == 0), -1);
            DUE.is("26: no day -1", x.worlds(0, 0, 6, 1, -1, what == 0), -1);
            DUE.is("26: no w 0", x.worlds(0, 0, 6, 0, 0, what == 0), -1);
            DUE.is("26: no w 21", x.worlds(0, 0, 6, 21, 0, what == 0), -1);
            DUE.is("26: no telling 1", x.worlds(0, 1, 6, 1, 0, what == 0), -1);
            DUE.is("26: no village 1", x.worlds(1, 0, 6, 1, 0, what == 0), -1);
        }
        DUE.is("25: no what 2", x.drawn(0, 0, 6, 0, 2), -1);
        DUE.is("25: no what -1", x.drawn(0, 0, 6, 0, -1), -1);
        for (int edge : EDGES) {
            DUE.is("25: " + edge, x.drawn(edge, 0, 6, 0, 0) + x.drawn(0, edge, 6, 0, 0) + x.drawn(0, 0, 6, edge, 0)
                + x.drawn(0, 0, 6, 0, edge), -4);
            DUE.is("26: " + edge, x.worlds(edge, 0, 6, 1, 0, true) + x.worlds(0, edge, 6, 1, 0, true)
                + x.worlds(0, 0, 6, edge, 0, true) + x.worlds(0, 0, 6, 1, edge, true), -4);
        }
    }

    private static void shield() {
        SaidBack x = Tapes.with(CHAIN, "word 0 0;");
        DUE.is("34: by none", x.shield(0, 0, 3, 0), -1);
        DUE.is("34: by the least", x.shield(0, 0, 3, 1), 1);
        DUE.is("34: the fewest", x.shield(0, 0, 3, 2), 1);
        DUE.is("34: not by himself", x.shield(0, 0, 0, 2), -1);
        DUE.is("34: anyway", x.shield(0, -1, 3, 2), 0);
        DUE.is("34: anyway, by none", x.shield(0, -1, 3, 0), 0);
        x = Tapes.with("people 4;tie 1 3 1 5;tie 2 3 1 5;", "word 0 1;word 9 2;");
        DUE.is("34: no one alone", x.shield(0, 0, 3, 1), -1);
        DUE.is("34: by two", x.shield(0, 0, 3, 2), 6);
        // it must not be among ever, not in the end alone
        x = Tapes.with("people 3;last 2;tie 0 2 1 5;tie 1 2 1 5;", "word 0 0;deny 5 1;");
        DUE.is("34: on no day", x.shield(0, 0, 2, 1), 1);
        DUE.is("34: no person 3", x.shield(0, 0, 3, 1), -1);
        DUE.is("34: no n 3", x.shield(0, -1, 2, 3), -1);
        DUE.is("34: no n -1", x.shield(0, -1, 2, -1), -1);
        DUE.is("34: no telling 1", x.shield(0, 1, 2, 1), -1);
        DUE.is("34: no village 1", x.shield(1, -1, 2, 1), -1);
        for (int edge : EDGES) {
            DUE.is("34: " + edge, x.shield(edge, -1, 2, 1) + x.shield(0, edge, 2, 1) + x.shield(0, -1, edge, 1)
                + x.shield(0, -1, 2, edge), -4);
        }
    }

    private static void worst(String what, String village, String telling, int... due) {
        SaidBack x = Tapes.with(village, telling);
        for (int i = 0; i < 4; i++) {
            DUE.is("35: " + what + ", " + i, x.worst(0, 0, i), due[i]);
        }
    }

    private static void worst() {
        worst("a chain", CHAIN, "", 0, 4, 0, 1);
        worst("a chain, told other things", CHAIN, "deny 0 0;deny 0 1;word 3 3;", 0, 4, 0, 1);
        worst("the other way", "people 4;tie 3 2 1 1;tie 2 1 1 1;tie 1 0 1 1;", "", 3, 4, 0, 1);
        worst("walls count", "people 4;once 0;tie 0 1 1 5;tie 1 2 1 5;tie 2 3 1 5;", "wall 0 0 3;", 1, 3, 0, 1);
        worst("nobody else", LONELY, "", 0, 1, 0, 1);
        worst("doubts", "people 3;doubt 0 10;doubt 1 10;", "", 2, 1, 0, 1);
        worst("nobody ever", "people 1;doubt 0 10;", "", 0, 0, 0, 1);
        // told 0 there is no ring: 1's sum still grows on day 200
        worst("no ring", "people 2;most 1;tie 0 1 3 1;", "wall 0 0 99;", 0, 2, 1, 1);
        worst("no ring at all", "people 2;most 0 1;tie 0 1 3 1;tie 1 0 3 1;", "wall 0 0 99;wall 1 0 99;", 0, 2, 0, 0);
        SaidBack x = Tapes.with(CHAIN, "");
        for (int what = 0; what < 4; what++) {
            DUE.is("35: no telling 1", x.worst(0, 1, what), -1);
            DUE.is("35: no village 1", x.worst(1, 0, what), -1);
        }
        DUE.is("35: without acts", x.worst(0, -1, 1), 4);
        DUE.is("35: no what 4", x.worst(0, 0, 4), -1);
        DUE.is("35: no what -1", x.worst(0, 0, -1), -1);
        for (int edge : EDGES) {
            DUE.is("35: " + edge, x.worst(edge, 0, 0) + x.worst(0, edge, 0) + x.worst(0, 0, edge), -3);
        }
    }

    private static void deaf() {
        SaidBack x = Tapes.with(CHAIN + "doubt 1 5;", "word 0 0;", times("word 0 0;", 10), times("word 0 0;", 11));
        DUE.is("36: of 0", x.deaf(0, 0, 0), 10);
        for (int p = 1; p < 4; p++) {
            DUE.is("36: of " + p, x.deaf(0, 0, p), 6);
        }
        DUE.is("36: 90 heard", x.deaf(0, 1, 0), 91);
        DUE.is("36: 99 heard", x.deaf(0, 2, 0), -1);
        DUE.is("36: anyway", x.deaf(0, -1, 3), 1);
        DUE.is("36: his doubt stays", x.village(0, 31), 5);
        x = Tapes.with("people 2;tie 1 0 1 8;", "word 0 1;" + times("word 1 0;", 10));
        DUE.is("36: 98 heard", x.deaf(0, 0, 0), 99);
        // a denial that is heard keeps him from holding: by a doubt of 1 already
        x = Tapes.with("people 2;till 0;tie 1 0 1 5;", "deny 0 0;word 0 1;");
        DUE.is("36: denied", x.deaf(0, 0, 0), 1);
        DUE.is("36: no person 2", x.deaf(0, 0, 2), -1);
        DUE.is("36: no telling 1", x.deaf(0, 1, 0), -1);
        DUE.is("36: no village 1", x.deaf(1, 0, 0), -1);
        for (int edge : EDGES) {
            DUE.is("36: " + edge, x.deaf(edge, 0, 0) + x.deaf(0, edge, 0) + x.deaf(0, 0, edge), -3);
        }
    }

    private static void turn() {
        SaidBack x = Tapes.with("people 2;tie 0 1 1 5;", "word 0 0;deny 5 0;", "word 0 1;deny 5 1;");
        // of last, till, both 0 has the denial in the end; of most his sum is 0
        int[] end = {2, 1, 2, 1, 1, 2};
        for (int kind = 0; kind < 6; kind++) {
            DUE.is("37: to " + kind, x.turn(0, 0, kind, false), 0);
            DUE.is("37: end " + kind, x.turn(0, 0, kind, true), end[kind]);
        }
        DUE.is("37: the one", x.turn(0, 1, 1, false), 1);
        DUE.is("37: the one's end", x.turn(0, 1, 1, true), 0);
        DUE.is("37: his kind stays", x.village(0, 11), 0);
        DUE.is("37: without acts", x.turn(0, -1, 5, true), 0);
        for (boolean e : new boolean[] {false, true}) {
            DUE.is("37: no kind 6", x.turn(0, 0, 6, e), -1);
            DUE.is("37: no kind -1", x.turn(0, 0, -1, e), -1);
            DUE.is("37: no telling 2", x.turn(0, 2, 0, e), -1);
            DUE.is("37: no village 1", x.turn(1, 0, 0, e), -1);
            for (int edge : EDGES) {
                DUE.is("37: " + edge, x.turn(edge, 0, 0, e) + x.turn(0, edge, 0, e) + x.turn(0, 0, edge, e), -3);
            }
        }
    }

    public static void main(String[] args) {
        cure();
        late();
        cures();
        often();
        barred();
        join();
        begun();
        origin();
        matters();
        drawn();
        shield();
        worst();
        deaf();
        turn();
        DUE.end();
    }
}
