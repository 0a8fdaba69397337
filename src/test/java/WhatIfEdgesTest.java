/**
 * What-ifs of terms 3, 5 and 6, draws of term 4, and promises 14 to 19, 25 to 28 and 32 to 37 at their boundaries: for each
 * sentence that names one a method, which asks at the boundary, just inside it and just outside it. (Wrong arguments:
 * ArgumentEdgesTest.)
 */
public final class WhatIfEdgesTest {
    private static final Due DUE = new Due("WhatIfEdgesTest");
    /** Four who hold, 4 to 7, and four who tell two of them each: 1 and 2, and 0 and 3, together tell all. */
    private static final String TWO_AND_TWO = "people 8;till 0 1 2 3 4 5 6 7;tie 0 4 1 1;tie 0 5 1 1;tie 3 6 1 1;tie 3 7 1 1;"
        + "tie 1 4 1 1;tie 1 6 1 1;tie 2 5 1 1;tie 2 7 1 1;";
    private static final String FOUR_TOLD = "word 0 4;word 0 5;word 0 6;word 0 7;";
    /** It goes to and fro, unless one of the ties doesn't carry. */
    private static final String SWAP = "people 2;last 0 1;tie 0 1 1 5;tie 1 0 1 5;";
    private static final String TO_AND_FRO = "word 0 0;deny 1 0;";
    /** Two have the word on even days, the denial on odd ones; the third one's denial makes day 2 the last day. */
    private static final String SWING = "people 3;last 0 1;tie 0 1 2 5;tie 1 0 2 5;";
    private static final String SWUNG = "word 0 0;word 0 1;deny 1 0;deny 1 1;deny 2 2;";

    private static String times(String act, int n) {
        StringBuilder b = new StringBuilder();
        for (int i = 0; i < n; i++) {
            b.append(act);
        }
        return b.toString();
    }

    private static String told(int n, int day) {
        StringBuilder b = new StringBuilder();
        for (int p = 0; p < n; p++) {
            b.append("word ").append(day).append(' ').append(p).append(';');
        }
        return b.toString();
    }

    /** People of one kind, without ties. */
    private static String lonely(int n, String kind) {
        StringBuilder b = new StringBuilder("people ").append(n).append(';').append(kind);
        for (int p = 0; p < n; p++) {
            b.append(' ').append(p);
        }
        return b.append(';').toString();
    }

    // term 3: CURE, LATE, BEGUN, ORIGIN, END and what comes of it

    /** "CURE on a day by n, 0 .. 3: the fewest PEOPLE, n at most": none, one, two, three, not four. */
    private static void fewestToCure() {
        for (int holders = 0; holders <= 5; holders++) {
            SaidBack x = Tapes.with(lonely(5, "till"), told(holders, 0));
            for (int n = 0; n <= 3; n++) {
                int due = holders > n ? -1 : (1 << holders) - 1;
                DUE.is("14: " + holders + " hold, by " + n, x.cure(0, 0, 50, n), due);
            }
        }
        SaidBack x = Tapes.with(TWO_AND_TWO, FOUR_TOLD, FOUR_TOLD + "deny 9 0;");
        DUE.is("14: not by one", x.cure(0, 0, 50, 1), -1);
        DUE.is("14: of two sets of two the least number", x.cure(0, 0, 50, 2), 6);
        DUE.is("14: not by three, if two do", x.cure(0, 0, 50, 3), 6);
        DUE.is("14: one is enough, behind another one", x.cure(0, 1, 50, 1), 8);
        DUE.is("14: one, though of two there are lesser numbers", x.cure(0, 1, 50, 3), 8);
        x = Tapes.with(lonely(16, "till"), "word 0 13;word 0 14;word 0 15;", "word 0 15;");
        DUE.is("14: the last three of 16", x.cure(0, 0, 50, 3), 7 << 13);
        DUE.is("14: the last one of 16", x.cure(0, 1, 50, 3), 1 << 15);
        x = Tapes.with(lonely(2, "till"), told(2, 0));
        DUE.is("14: all there are", x.cure(0, 0, 50, 3), 3);
    }

    /** "by deny on that day": on the day, not ahead of it, not behind it; days 0 .. 99. */
    private static void onThatDay() {
        for (int day : new int[] {1, 50, 98, 99}) {
            // FIRST: ahead of the word; as much as the word is too late
            SaidBack x = Tapes.with("people 1;", "word " + day + " 0;");
            DUE.is("14: a day ahead of day " + day, x.cure(0, 0, day - 1, 1), 1);
            DUE.is("14: on day " + day, x.cure(0, 0, day, 1), -1);
            DUE.is("14: behind day " + day, x.cure(0, 0, 99, 1), -1);
            // LAST: behind two words, or on the day of one
            x = Tapes.with("people 1;last 0;", "word " + (day - 1) + " 0;word " + (day - 1) + " 0;", "word " + day + " 0;");
            DUE.is("14: a day behind day " + (day - 1), x.cure(0, 0, day, 1), 1);
            DUE.is("14: two on day " + (day - 1), x.cure(0, 0, day - 1, 1), -1);
            DUE.is("14: last, ahead of day " + day, x.cure(0, 1, day - 1, 1), -1);
            DUE.is("14: last, as much on day " + day, x.cure(0, 1, day, 1), 1);
        }
        SaidBack x = Tapes.with("people 1;till 0;", "word 0 0;");
        DUE.is("14: day 0", x.cure(0, 0, 0, 1), 1);
        DUE.is("14: day 99", x.cure(0, 0, 99, 1), 1);
        // it is 9 more, beside what is denied anyway
        x = Tapes.with("people 1;", "word 5 0;word 5 0;deny 5 0;", "word 5 0;word 5 0;deny 5 0;deny 5 0;");
        DUE.is("14: 18 against 18", x.cure(0, 0, 5, 1), -1);
        DUE.is("14: 27 against 18", x.cure(0, 1, 5, 0), -1);
        DUE.is("14: 27 against 18, by one", x.cure(0, 1, 5, 1), 1);
    }

    /** 30 ACTS may be told; what a what-if adds is more. */
    private static void beside30Acts() {
        SaidBack x = Tapes.with(lonely(3, "till"), told(3, 0) + times("word 1 0;", 27));
        DUE.is("8: 30 acts", x.act(0, -1, 0), 30);
        DUE.is("14: beside 30 acts", x.cure(0, 0, 7, 3), 7);
        DUE.is("32: beside 30 acts", Tapes.with("people 1;till 0;", times("word 0 0;", 30)).often(0, 0, 7, 0), 1);
        DUE.is("33: beside 30 acts", x.cures(0, 0, 7, 2), 0);
        DUE.is("16: beside 30 acts", x.begun(0, 0, 7, 6, 0), 6);
        DUE.is("8: 30 acts still", x.act(0, -1, 0), 30);
    }

    /** "LATE by n, 0 .. 2: the last day, 0 .. 40, on which there is a CURE by n." */
    private static void late() {
        for (int day : new int[] {0, 1, 2, 39, 40, 41, 42, 99}) {
            SaidBack x = Tapes.with("people 1;", "word " + day + " 0;");
            DUE.is("15: ahead of day " + day, x.late(0, 0, 1), Math.min(40, day - 1));
            DUE.is("15: by none, " + day, x.late(0, 0, 0), -1);
            // two words: behind them alone
            x = Tapes.with("people 1;last 0;", "word " + day + " 0;word " + day + " 0;", "word " + day + " 0;");
            DUE.is("15: behind day " + day, x.late(0, 0, 1), day < 40 ? 40 : -1);
            DUE.is("15: on day " + day, x.late(0, 1, 2), day <= 40 ? 40 : -1);
        }
        for (int holders = 0; holders <= 3; holders++) {
            SaidBack x = Tapes.with(lonely(3, "till"), told(holders, 0));
            for (int n = 0; n <= 2; n++) {
                DUE.is("15: " + holders + " hold, by " + n, x.late(0, 0, n), n < holders ? -1 : 40);
            }
        }
        // a day between two others: the denial of day 4 comes ahead of the word of day 6, and behind the one of day 2
        SaidBack x = Tapes.with("people 2;last 0;first 1;", "word 2 0;word 2 0;word 6 1;");
        DUE.is("15: both, on day 5", x.late(0, 0, 2), 5);
        DUE.is("15: not by one", x.late(0, 0, 1), -1);
    }

    /** "of all sets of one or two of PEOPLE": not of none, not of three; "on day 0". */
    private static void setsOfOneOrTwo() {
        for (int people = 1; people <= 4; people++) {
            // nobody hears it: every set is one by which nobody holds
            SaidBack x = Tapes.with(lonely(people, "first") + doubts(people), "");
            int sets = people + people * (people - 1) / 2;
            DUE.is("16: all sets of " + people, x.begun(0, 0, 5, 0, -1), sets);
            DUE.is("16: the first one", x.begun(0, 0, 5, 0, 0), 1);
            DUE.is("16: the second one", x.begun(0, 0, 5, 0, 1), people == 1 ? -2 : 2);
            DUE.is("16: the third one", x.begun(0, 0, 5, 0, 2), people == 1 ? -2 : 3);
            DUE.is("16: the last one", x.begun(0, 0, 5, 0, sets - 1), people == 1 ? 1 : 3 << people - 2);
            DUE.is("16: no more", x.begun(0, 0, 5, 0, sets), -2);
        }
        SaidBack x = Tapes.with("people 4;", "");
        int[] holders = {0, 1, 8, 3, 12, 7, 14, 15};
        int[] many = {0, 1, 1, 1, 1, 0, 0, 0};
        for (int i = 0; i < holders.length; i++) {
            DUE.is("16: by whom " + holders[i], x.begun(0, 0, 0, holders[i], -1), many[i]);
            DUE.is("16: by whom " + holders[i] + ", 0", x.begun(0, 0, 0, holders[i], 0), many[i] == 1 ? holders[i] : -2);
            DUE.is("16: by whom " + holders[i] + ", 1", x.begun(0, 0, 0, holders[i], 1), -2);
            DUE.is("16: by whom " + holders[i] + ", day 99", x.begun(0, 0, 99, holders[i], -1), many[i]);
        }
        x = Tapes.with("people 16;", "");
        DUE.is("16: the last two of 16", x.begun(0, 0, 0, 3 << 14, 0), 3 << 14);
        DUE.is("16: the first and the last", x.begun(0, 0, 99, 1 << 15 | 1, 0), 1 << 15 | 1);
    }

    private static String doubts(int people) {
        StringBuilder b = new StringBuilder();
        for (int p = 0; p < people; p++) {
            b.append("doubt ").append(p).append(" 10;");
        }
        return b.toString();
    }

    /** "(and nothing else of a TELLING but its walls)": of begun, origin, worst. */
    private static void wallsAlone() {
        String village = "people 3;once 0 1 2;tie 0 1 1 1;tie 1 2 1 1;";
        SaidBack x = Tapes.with(village, "word 0 2;deny 0 0;deny 0 1;word 1 1;", "wall 0 0 0;", "wall 0 1 99;deny 99 1;");
        DUE.is("16: nothing else", x.begun(0, 0, 9, 7, 0), 1);
        DUE.is("16: but the wall", x.begun(0, 1, 9, 7, -1), 1);
        DUE.is("16: but the wall, who", x.begun(0, 1, 9, 7, 0), 3);
        DUE.is("16: a wall behind it", x.begun(0, 2, 9, 7, 0), 1);
        DUE.is("17: nothing else", x.origin(0, 0, 9, 7, true), 0);
        DUE.is("17: but the wall", x.origin(0, 1, 9, 7, false), 1);
        DUE.is("17: but the wall, how far", x.origin(0, 1, 9, 7, true), 1);
        DUE.is("35: nothing else", x.worst(0, 0, 1), 3);
        DUE.is("35: but the wall", x.worst(0, 1, 1), 2);
        DUE.is("35: but the wall, who", x.worst(0, 1, 0), 1);
    }

    /** "ORIGIN: the one by whom .. differ least from these; of several the least." */
    private static void origin() {
        SaidBack x = Tapes.with("people 4;tie 2 1 1 1;", "");
        int[] holders = {0, 1, 2, 3, 4, 5, 6, 7, 8, 9, 14, 15};
        int[] who = {0, 0, 1, 0, 2, 0, 2, 2, 3, 0, 2, 2};
        int[] far = {1, 0, 0, 1, 1, 1, 0, 1, 0, 1, 1, 2};
        for (int i = 0; i < holders.length; i++) {
            // on day 0 each one alone, from day 1 on 2 and 1 together
            DUE.is("17: " + holders[i], x.origin(0, 0, 1, holders[i], false), who[i]);
            DUE.is("17: " + holders[i] + ", how far", x.origin(0, 0, 1, holders[i], true), far[i]);
        }
        DUE.is("17: on day 0", x.origin(0, 0, 0, 6, false), 1);
        DUE.is("17: on day 0, how far", x.origin(0, 0, 0, 6, true), 1);
        DUE.is("17: on day 99", x.origin(0, 0, 99, 6, true), 0);
        x = Tapes.with("people 16;", "");
        DUE.is("17: the 16th", x.origin(0, 0, 0, 1 << 15, false), 15);
        DUE.is("17: all but one", x.origin(0, 0, 0, 65535, true), 15);
        DUE.is("17: nobody", x.origin(0, 0, 0, 0, true), 1);
    }

    /** "END of a RUN: how many HOLD on the day of its RING (200 without one)"; "MATTERS of one: END less that of the RUN ..". */
    private static void end() {
        // both hold on the ring's day, 2, and on day 200; nobody, if one of them says nothing
        SaidBack x = Tapes.with(SWING, SWUNG, SWUNG + "word 3 2;", "word 0 0;word 0 1;deny 1 0;deny 1 1;");
        int[] due = {2, 2, 0};
        for (int p = 0; p < 3; p++) {
            DUE.is("18: on the ring's day, of " + p, x.matters(0, 0, p), due[p]);
            // on day 3, the ring's, and on day 1 nobody holds, though they hold on day 200
            DUE.is("18: on an odd day, of " + p, x.matters(0, 1, p), 0);
            DUE.is("18: on day 1, of " + p, x.matters(0, 2, p), 0);
        }
        // without a ring: on day 200 1 has the word, on day 199 he hasn't
        x = Tapes.with("most 1;tie 0 1 2 1;", "word 99 0;" + times("deny 0 1;", 11));
        DUE.is("11: no ring", x.run(0, 0, 0), -1);
        DUE.is("18: on day 200", x.matters(0, 0, 0), 1);
        x = Tapes.with("most 1;tie 0 1 3 1;", "word 99 0;" + times("deny 0 1;", 11));
        DUE.is("18: not on day 201", x.matters(0, 0, 0), 0);
        // below 0: without his denial all hold
        x = Tapes.with("people 4;till 0 1 2 3;tie 0 1 1 1;tie 0 2 1 1;tie 0 3 1 1;", "word 0 1;word 0 2;word 0 3;deny 0 0;");
        DUE.is("18: three fewer by him", x.matters(0, 0, 0), -3);
        DUE.is("18: nothing by another one", x.matters(0, 0, 1), 0);
        DUE.is("19: the one by whom they are not fewer", x.key(0, 0, false), 1);
    }

    /** "KEY: the one who MATTERS most; of several the least"; "SEVER: the TIE without which END is least; of several the least". */
    private static void keyAndSever() {
        SaidBack x = Tapes.with("people 3;tie 1 0 1 1;tie 0 1 1 1;tie 1 2 1 1;tie 2 1 1 1;", "word 0 0;", "word 0 1;", "word 0 2;", "");
        int[] key = {0, 1, 2};
        int[] sever = {1, 0, 3};
        for (int t = 0; t < 3; t++) {
            DUE.is("19: key by " + t, x.key(0, t, false), key[t]);
            DUE.is("19: sever by " + t, x.key(0, t, true), sever[t]);
        }
        DUE.is("19: of all the least", x.key(0, -1, false), 0);
        DUE.is("19: of all ties the least", x.key(0, -1, true), 0);
        x = Tapes.with("people 16;tie 15 14 1 1;", "word 0 15;");
        DUE.is("19: the 16th", x.key(0, 0, false), 15);
        DUE.is("19: the only tie", x.key(0, 0, true), 0);
        x = Tapes.with("people 3;" + times("tie 1 0 1 1;", 39) + "tie 0 2 1 1;", "word 0 0;");
        DUE.is("19: the 40th tie", x.key(0, 0, true), 39);
        x = Tapes.with("people 3;" + times("tie 1 0 1 1;", 38) + "tie 0 2 1 1;tie 0 2 1 1;", "word 0 0;");
        DUE.is("19: two ties, neither", x.key(0, 0, true), 0);
        DUE.is("19: one person", Tapes.with("people 1;", "word 0 0;").key(0, 0, false), 0);
        DUE.is("19: there are no ties", Tapes.with("people 16;", "word 0 0;").key(0, 0, true), -1);
        DUE.is("19: there is one tie", Tapes.with("tie 1 0 1 1;", "word 0 0;").key(0, 0, true), 0);
    }

    // term 4: DRAWN, WORLDS

    /** "those whose number is not below STRENGTH carry nothing": of every number and strength. */
    private static void notBelowStrength() {
        boolean[] seen = new boolean[10];
        int many = 0;
        for (int seed = -40; seed < 200 && many < 10; seed++) {
            int x = seed * 1103515245 + 12345;
            int number = (x >>> 16) % 10;
            if (seen[number]) {
                continue;
            }
            seen[number] = true;
            many++;
            for (int strength = 1; strength <= 9; strength++) {
                SaidBack one = Tapes.with("tie 0 1 1 " + strength + ";", "word 0 0;");
                String label = "25: " + number + " of strength " + strength;
                DUE.is(label, one.drawn(0, 0, seed, 1, 0), number < strength ? 3 : 1);
                DUE.is(label + ", day 0", one.drawn(0, 0, seed, 0, 0), 1);
                DUE.is(label + ", day 200", one.drawn(0, 0, seed, 200, 0), number < strength ? 3 : 1);
                DUE.is(label + ", how many", one.worlds(0, 0, seed, 1, 1, true), number < strength ? 2 : 1);
            }
        }
        DUE.is("25: all numbers", many, 10);
    }

    /** "at the beginning of a RUN for each TIE", in their order, of 32 bits: 40 of them, of many seeds. */
    private static void eachTieInOrder() {
        StringBuilder b = new StringBuilder("people 15;");
        for (int t = 0; t < 40; t++) {
            // 14 tell nobody; 0 tells the others once each, the ties behind are between those whom nothing reaches
            b.append(t < 39 ? "tie 14 13 1 5;" : "tie 0 1 1 5;");
        }
        for (int seed : new int[] {Integer.MIN_VALUE, -65536, -1, 0, 1, 2, 3, 65535, 65536, Integer.MAX_VALUE}) {
            int x = seed;
            int number = 0;
            for (int t = 0; t < 40; t++) {
                x = x * 1103515245 + 12345;
                number = (x >>> 16) % 10;
            }
            SaidBack one = Tapes.with(b.toString(), "word 0 0;");
            DUE.is("25: the 40th tie's number, seed " + seed, one.drawn(0, 0, seed, 1, 0), number < 5 ? 3 : 1);
        }
    }

    /** "1: 1 if it is CLEAN, else 0 (whatever the day)"; "WORLDS: of SEED, SEED + 1, .., w ones". */
    private static void worlds() {
        SaidBack x = Tapes.with(SWAP, TO_AND_FRO);
        for (int seed : new int[] {Integer.MIN_VALUE, -10, 0, 6, Integer.MAX_VALUE - 5}) {
            int clean = 0;
            int holders = 0;
            for (int w = 1; w <= 20; w++) {
                int y = (seed + w - 1) * 1103515245 + 12345;
                int one = (y >>> 16) % 10;
                y = y * 1103515245 + 12345;
                int other = (y >>> 16) % 10;
                boolean both = one < 5 && other < 5;
                // 1 has heard the word alone, if his tie alone is dead: it comes on day 1, the denial on day 2
                clean += both ? 0 : 1;
                for (int day : new int[] {0, 77, 200}) {
                    DUE.is("25: clean, seed " + (seed + w - 1), x.drawn(0, 0, seed + w - 1, day, 1), both ? 0 : 1);
                }
                DUE.is("26: clean, " + w + " from " + seed, x.worlds(0, 0, seed, w, 200, false), clean);
                holders += 1;
                DUE.is("26: holders of day 0, " + w + " from " + seed, x.worlds(0, 0, seed, w, 0, true), holders);
                DUE.is("26: none without acts, " + w, x.worlds(0, -1, seed, w, 0, true), 0);
                DUE.is("26: clean without acts, " + w, x.worlds(0, -1, seed, w, 0, false), w);
            }
        }
    }

    // term 5: BARRED, JOIN

    /** "BARRED on a day by n, 0 .. 2: the fewest TIES, n at most"; "of several the least number". */
    private static void fewestTies() {
        String more = SWAP.replace("people 2", "people 4").replace("last 0 1", "last 0 1 2 3") + "tie 2 3 1 5;tie 3 2 1 5;";
        SaidBack x = Tapes.with(more, "", TO_AND_FRO, TO_AND_FRO + "word 0 2;deny 1 2;");
        for (int n = 0; n <= 2; n++) {
            DUE.is("27: none needed, by " + n, x.barred(0, 0, 0, n), 0L);
            DUE.is("27: one needed, by " + n, x.barred(0, 1, 0, n), n < 1 ? -1L : 1L);
            DUE.is("27: two needed, by " + n, x.barred(0, 2, 0, n), n < 2 ? -1L : 5L);
            DUE.is("27: others needed, by " + n, x.barred(0, 2, 1, n), n < 2 ? -1L : 10L);
        }
        x = Tapes.with(more.replace("people 4", "people 6").replace("2 3;", "2 3 4 5;") + "tie 4 5 1 5;tie 5 4 1 5;",
            TO_AND_FRO + "word 0 2;deny 1 2;word 0 4;deny 1 4;");
        DUE.is("27: three needed", x.barred(0, 0, 0, 2), -1L);
        // behind 38 ties of others, the last two; of 40 the first and the last
        String others = lonely(4, "last") + times("tie 2 3 1 5;", 38);
        x = Tapes.with(others + "tie 0 1 1 5;tie 1 0 1 5;", TO_AND_FRO);
        DUE.is("27: the 39th tie", x.barred(0, 0, 0, 1), 1L << 38);
        DUE.is("27: the 40th tie", x.barred(0, 0, 1, 1), 1L << 39);
        DUE.is("27: the 40th tie, by two", x.barred(0, 0, 1, 2), 1L << 39);
        x = Tapes.with(lonely(4, "last") + "tie 1 0 1 5;" + times("tie 2 3 1 5;", 37) + "tie 0 1 1 5;tie 1 0 1 5;", TO_AND_FRO);
        DUE.is("27: the first and the 40th", x.barred(0, 0, 1, 2), 1L << 39 | 1L);
        DUE.is("27: no ties", Tapes.with("people 2;", "word 0 0;").barred(0, 0, 0, 2), -1L);
        DUE.is("27: no ties, clean", Tapes.with("people 2;", "").barred(0, 0, 0, 2), 0L);
        DUE.is("27: one tie, by two", Tapes.with("last 0;tie 0 1 1 5;", TO_AND_FRO).barred(0, 0, 0, 2), 1L);
    }

    /** "carrying nothing from that day on": on the day itself nothing, on the day ahead of it still. */
    private static void fromThatDayOn() {
        for (int day : new int[] {0, 1, 50, 97, 98}) {
            // what 0 says on that day alone makes 1 hold
            SaidBack x = Tapes.with("last 0;tie 0 1 1 5;", "word " + day + " 0;deny " + (day + 1) + " 0;");
            DUE.is("27: on the day, " + day, x.barred(0, 0, day, 1), 1L);
            DUE.is("27: a day too late, " + day, x.barred(0, 0, day + 1, 1), -1L);
            if (day > 0) {
                DUE.is("27: a day ahead, " + day, x.barred(0, 0, day - 1, 1), 1L);
            }
        }
        SaidBack x = Tapes.with("both 0;tie 0 1 1 5;", "word 99 0;deny 99 0;");
        DUE.is("27: on day 99", x.barred(0, 0, 99, 1), 1L);
        DUE.is("27: on day 98", x.barred(0, 0, 98, 1), 1L);
        DUE.is("27: on day 0", x.barred(0, 0, 0, 1), 1L);
    }

    /** "LAST DAY is that day at least": what goes round ahead of that day is no RING then. */
    private static void barredDayIsAnAct() {
        SaidBack x = Tapes.with(SWAP, TO_AND_FRO);
        DUE.is("11: goes round from day 1 on", x.run(0, 0, 0), 1);
        for (int day = 2; day < 100; day++) {
            // on even days 0 has the word: without his tie 1 has the denial for ever, and he hears it
            DUE.is("27: on day " + day, x.barred(0, 0, day, 1), day % 2 == 0 ? 1L : 2L);
        }
    }

    /** "JOIN: a further TIE of 1 day, of STRENGTH 9": not later, not less. */
    private static void oneDayOfNine() {
        for (int doubt = 8; doubt <= 10; doubt++) {
            SaidBack x = Tapes.with("people 2;till 0 1;doubt 0 " + doubt + ";", "word 0 0;word 0 0;deny 0 1;");
            DUE.is("28: 9 by a doubt of " + doubt, x.join(0, 0, false), doubt <= 9 ? 1 : -1);
            DUE.is("28: 9 by a doubt of " + doubt + ", to", x.join(0, 0, true), doubt <= 9 ? 0 : -1);
        }
        for (int day = 0; day <= 3; day++) {
            // FIRST: the denial of day 0 comes on day 1, and is ahead of a word of day 2 alone
            SaidBack x = Tapes.with("people 2;once 1;", "word " + day + " 0;deny 0 1;");
            DUE.is("28: ahead of a word of day " + day, x.join(0, 0, false), day >= 2 ? 1 : -1);
        }
        // a slow denial comes later by the further tie, too
        for (int slow = 0; slow <= 3; slow++) {
            SaidBack x = Tapes.with("people 2;once 1;slow " + slow + ";", "word 3 0;deny 0 1;");
            DUE.is("28: slow " + slow, x.join(0, 0, false), slow <= 1 ? 1 : -1);
        }
    }

    /** "from one to another one ..the first one, of several the least from, then to". */
    private static void leastFromThenTo() {
        SaidBack x = Tapes.with(lonely(4, "till"), "", "word 0 3;deny 0 2;", "word 0 0;deny 0 3;", "word 0 1;deny 0 0;deny 0 2;",
            "word 0 2;word 0 3;deny 0 1;");
        int[][] due = {{0, 1}, {2, 3}, {3, 0}};
        for (int t = 0; t < 3; t++) {
            DUE.is("28: from, by " + t, x.join(0, t, false), due[t][0]);
            DUE.is("28: to, by " + t, x.join(0, t, true), due[t][1]);
        }
        x = Tapes.with(lonely(4, "till"), "word 0 1;deny 0 0;deny 0 2;", "word 0 2;word 0 3;deny 0 1;");
        DUE.is("28: of two the least", x.join(0, 0, false), 0);
        DUE.is("28: of two the least, to", x.join(0, 0, true), 1);
        DUE.is("28: two who hold", x.join(0, 1, false), -1);
        // 0 to 2, who tells 1, and 0 to 1, who tells 2
        x = Tapes.with(lonely(3, "till") + "tie 1 2 1 1;tie 2 1 1 1;", "word 0 1;deny 0 0;");
        DUE.is("28: of one from the least to", x.join(0, 0, true), 1);
        for (String telling : new String[] {"", "deny 0 0;", "word 0 0;"}) {
            DUE.is("28: nobody else", Tapes.with("people 1;", telling).join(0, 0, false), -1);
            DUE.is("28: to nobody else", Tapes.with("people 1;", telling).join(0, 0, true), -1);
        }
        x = Tapes.with(lonely(16, "till"), "word 0 14;deny 0 15;");
        DUE.is("28: the 16th", x.join(0, 0, false), 15);
        DUE.is("28: to the 15th", x.join(0, 0, true), 14);
        for (int ties = 39; ties <= 40; ties++) {
            x = Tapes.with("people 3;till 0 1 2;" + times("tie 0 1 1 1;", ties), "word 0 0;deny 0 2;");
            DUE.is("28: beside " + ties + " ties", x.join(0, 0, false), 2);
            DUE.is("1: still " + ties + " ties", x.village(0, 1), ties);
        }
    }

    /** "(ACTS of .. TIES that are not, do nothing.)": the further tie has no wall, the last one told has. */
    private static void noWallOfTheFurtherTie() {
        // the denial is said on day 0 alone
        for (int ties = 0; ties <= 2; ties++) {
            String village = "people 3;till 0 1 2;tires 0 1;" + times("tie 2 0 1 1;", ties);
            for (int walled = 0; walled <= 3; walled++) {
                StringBuilder walls = new StringBuilder();
                for (int tie = 0; tie < walled; tie++) {
                    walls.append("wall ").append(tie).append(" 0 0;");
                }
                SaidBack x = Tapes.with(village, "word 0 0;deny 0 2;" + walls);
                boolean clean = walled < ties;
                String label = "28: " + ties + " ties, " + walled + " walls";
                DUE.is(label + ", clean", x.run(0, 0, 2), clean ? 1 : 0);
                DUE.is(label, x.join(0, 0, false), clean ? 0 : 2);
                DUE.is(label + ", to", x.join(0, 0, true), clean ? 1 : 0);
            }
        }
        SaidBack x = Tapes.with("people 3;till 0 1 2;tires 0 1;" + times("tie 0 1 1 1;", 39), "word 0 0;deny 0 2;wall 39 0 99;",
            "word 0 0;deny 0 2;wall 38 0 99;");
        DUE.is("28: a wall of the further tie's number, 39", x.join(0, 0, false), 2);
        DUE.is("28: a wall of the last one's number, 38", x.join(0, 1, false), 2);
    }

    // term 6: OFTEN, CURES, SHIELD, WORST, LONGEST, DEAF, TURN

    /** "OFTEN ..: the fewest days, 1 .. 9, one behind the other, by deny to him on each of which it is CLEAN." */
    private static void often() {
        for (int words = 0; words <= 10; words++) {
            SaidBack x = Tapes.with("people 2;most 0;", times("word 0 0;", words));
            int due = words >= 9 ? -1 : words + 1;
            for (int day : new int[] {1, 40, 89, 90}) {
                DUE.is("32: against " + words + " words, from day " + day, x.often(0, 0, day, 0), due);
            }
            // one against one on the same day: his sum is 0, and he has had nothing
            DUE.is("32: against " + words + " words, from the same day on", x.often(0, 0, 0, 0), words <= 1 ? 1 : due);
            DUE.is("32: by another one", x.often(0, 0, 0, 1), words == 0 ? 1 : -1);
        }
        // from the day on, one behind the other: the word of day 95 must be behind them, or among them
        for (int from = 84; from <= 90; from++) {
            SaidBack x = Tapes.with("people 1;last 0;", "word 95 0;word 95 0;");
            int due = 95 - from + 2;
            DUE.is("32: up to day 96, from " + from, x.often(0, 0, from, 0), due > 9 ? -1 : due);
        }
        DUE.is("32: the 16th", Tapes.with("people 16;till 15;", "word 0 15;").often(0, 0, 90, 15), 1);
    }

    /** "CURES of n, 0 .. 2, on a day: how many sets of just n of PEOPLE make it CLEAN, as in CURE." */
    private static void justSoMany() {
        for (int people = 1; people <= 5; people++) {
            for (int holders = 0; holders <= 3 && holders <= people; holders++) {
                SaidBack x = Tapes.with(lonely(people, "till"), told(holders, 0));
                int[] due = {holders == 0 ? 1 : 0,
                    holders == 0 ? people : holders == 1 ? 1 : 0,
                    holders == 0 ? people * (people - 1) / 2 : holders == 1 ? people - 1 : holders == 2 ? 1 : 0};
                for (int n = 0; n <= 2; n++) {
                    for (int day : new int[] {0, 99}) {
                        String label = "33: " + holders + " of " + people + " hold, just " + n + ", day " + day;
                        DUE.is(label, x.cures(0, 0, day, n), due[n]);
                    }
                }
            }
        }
        SaidBack x = Tapes.with(TWO_AND_TWO, FOUR_TOLD);
        DUE.is("33: two sets of two", x.cures(0, 0, 50, 2), 2);
        DUE.is("33: of one", x.cures(0, 0, 50, 1), 0);
        // a clean run of which a denial makes no other: but one that is too late is no harm
        x = Tapes.with(lonely(16, "till"), "");
        int[] all = {1, 16, 120};
        for (int n = 0; n <= 2; n++) {
            DUE.is("33: of 16, " + n, x.cures(0, 0, 99, n), all[n]);
        }
        // the word by a denial's turn: ahead of day 5 alone
        x = Tapes.with("people 2;", "word 5 0;");
        DUE.is("33: ahead of the word", x.cures(0, 0, 4, 1), 1);
        DUE.is("33: with the word", x.cures(0, 0, 5, 1), 0);
    }

    /** "SHIELD of one by n, 0 .. 2: the fewest others, n at most, who, SAYING nothing at all, keep him from being among EVER". */
    private static void shield() {
        String village = "people 5;tie 0 4 1 1;tie 1 4 1 1;tie 2 4 1 1;tie 3 4 1 1;";
        for (int tellers = 0; tellers <= 4; tellers++) {
            SaidBack x = Tapes.with(village, told(tellers, 0));
            for (int n = 0; n <= 2; n++) {
                DUE.is("34: of " + tellers + ", by " + n, x.shield(0, 0, 4, n), tellers <= n ? (1 << tellers) - 1 : -1);
            }
        }
        SaidBack x = Tapes.with("people 4;tie 0 1 1 1;tie 0 2 1 1;tie 1 3 1 1;tie 2 3 1 1;", "word 0 0;", "word 0 1;word 0 2;");
        DUE.is("34: one, the least", x.shield(0, 0, 3, 2), 1);
        DUE.is("34: one, though two do", x.shield(0, 0, 3, 1), 1);
        DUE.is("34: two", x.shield(0, 1, 3, 2), 6);
        DUE.is("34: not one of two", x.shield(0, 1, 3, 1), -1);
        DUE.is("34: told himself", x.shield(0, 0, 0, 2), -1);
        x = Tapes.with("people 16;tie 14 13 1 1;tie 15 13 1 1;", "word 0 14;word 0 15;");
        DUE.is("34: the last two of 16", x.shield(0, 0, 13, 2), 3 << 14);
        x = Tapes.with("people 2;tie 1 0 1 1;", "word 0 1;");
        DUE.is("34: the other one of two", x.shield(0, 0, 0, 2), 2);
        // on one day alone, on day 200, on day 201
        x = Tapes.with("people 3;last 1;tie 0 1 1 9;tie 2 1 1 9;once 0 2;", "word 0 0;deny 1 2;");
        DUE.is("34: a day alone", x.shield(0, 0, 1, 2), 1);
        for (int days = 1; days <= 3; days++) {
            x = Tapes.with("most 1;tie 0 1 " + days + " 1;", "word 99 0;" + times("deny 0 1;", 11));
            DUE.is("34: on day " + (198 + days), x.shield(0, 0, 1, 1), days <= 2 ? 1 : 0);
            DUE.is("34: on day " + (198 + days) + ", by none", x.shield(0, 0, 1, 0), days <= 2 ? -1 : 0);
        }
    }

    /** "the fewest others": his own silence would keep him, too, and is no shield. */
    private static void notByHimself() {
        // 1 says the word twice at most: on day 0, behind a wall; then 0's denial comes to him, till he is told again on day 5
        SaidBack x = Tapes.with("people 2;last 0 1;tires 2 0;tie 0 1 1 5;tie 1 0 1 5;", "word 0 1;deny 0 0;wall 1 0 4;word 5 1;");
        int[] said = {1, 2, 2, 2, 2, 1, 2};
        for (int day = 0; day < said.length; day++) {
            DUE.is("9: 1 says on day " + day, x.person(0, 0, day, 1, 4), said[day]);
        }
        DUE.is("10: 0 holds on day 6", x.holders(0, 0, 6, false), 1);
        DUE.is("34: not by himself", x.shield(0, 0, 0, 1), 2);
        DUE.is("34: not by himself, by two", x.shield(0, 0, 0, 2), 2);
        DUE.is("34: not by none", x.shield(0, 0, 0, 0), -1);
    }

    /** "WORST: told the word on day 0 alone, .. by whom most are EVER; of several the least; WEIGH"; "LONGEST: .. (without one: 0)". */
    private static void worst() {
        String[][] due = {
            {"people 1;", "", "0", "1", "0", "1"}, {"people 16;", "", "0", "1", "0", "1"},
            {"people 1;doubt 0 9;", "", "0", "1", "0", "1"}, {"people 1;doubt 0 10;", "", "0", "0", "0", "1"},
            {"people 3;tie 2 1 1 1;", "", "2", "2", "0", "1"}, {"people 3;tie 1 0 1 1;tie 2 0 1 1;", "", "1", "2", "0", "1"},
            {"people 16;tie 15 14 1 1;", "", "15", "2", "0", "1"},
            // a sum that grows for 98 days has a ring on day 199, for 99 days none
            {"most 1;tie 0 1 1 1;", "wall 0 0 99;", "0", "2", "0", "1"}, {"most 1;tie 0 1 2 1;", "wall 0 0 99;", "0", "2", "1", "1"},
            {"most 0 1;tie 0 1 2 1;tie 1 0 2 1;", "wall 0 0 99;wall 1 0 99;", "0", "2", "0", "0"}};
        for (String[] one : due) {
            SaidBack x = Tapes.with(one[0], one[1]);
            for (int what = 0; what < 4; what++) {
                DUE.is("35: '" + one[0] + "' " + what, x.worst(0, 0, what), Integer.parseInt(one[2 + what]));
            }
        }
    }

    /** "DEAF of one: the least DOUBT of his, 1 .. 99, by which he is not among EVER." */
    private static void deaf() {
        for (int strength = 1; strength <= 9; strength++) {
            SaidBack x = Tapes.with("tie 1 0 1 " + strength + ";doubt 0 50;", "word 0 1;", "word 0 1;" + times("word 1 0;", 10));
            DUE.is("36: " + strength + " heard", x.deaf(0, 0, 0), strength + 1);
            DUE.is("36: " + (90 + strength) + " heard", x.deaf(0, 1, 0), strength == 9 ? -1 : 91 + strength);
            DUE.is("36: his doubt stays", x.village(0, 30), 50);
        }
        DUE.is("36: none needed", Tapes.with("doubt 0 99;", "").deaf(0, 0, 0), 1);
        DUE.is("36: 99 heard", Tapes.with("", times("word 0 0;", 11)).deaf(0, 0, 0), -1);
        DUE.is("36: 90 heard", Tapes.with("", times("word 0 0;", 10)).deaf(0, 0, 0), 91);
        DUE.is("36: the 16th", Tapes.with("people 16;", "word 0 15;").deaf(0, 0, 15), 10);
        // by a doubt of 10 he doesn't hear the denial either: of 10 words and a denial
        SaidBack x = Tapes.with("people 1;till 0;", "word 1 0;deny 0 0;", "word 0 0;word 0 0;deny 0 0;");
        DUE.is("36: denied ahead of it", x.deaf(0, 0, 0), 1);
        DUE.is("36: denied with it", x.deaf(0, 1, 0), 1);
        // among EVER for a day, though denied in the end: unless he doesn't hear the word
        x = Tapes.with("people 1;last 0;", "word 0 0;deny 1 0;", "word 0 0;deny 0 0;deny 0 0;");
        DUE.is("36: held for a day", x.deaf(0, 0, 0), 10);
        DUE.is("36: held on no day", x.deaf(0, 1, 0), 1);
        for (int days = 1; days <= 3; days++) {
            x = Tapes.with("most 1;tie 0 1 " + days + " 1;", "word 99 0;" + times("deny 0 1;", 11));
            DUE.is("36: on day " + (198 + days), x.deaf(0, 0, 1), days <= 2 ? 2 : 1);
        }
    }

    /** "TURN to a KIND: the one by whom, being of that KIND, END is least; of several the least." */
    private static void turn() {
        SaidBack x = Tapes.with("people 3;", "word 0 0;word 0 1;word 0 2;deny 5 1;deny 5 2;", "deny 0 0;", "word 0 0;");
        int[] who = {0, 1, 1, 1, 1, 0};
        int[] end = {3, 2, 3, 2, 2, 3};
        for (int kind = 0; kind < 6; kind++) {
            // of MOST his sum is 0 in the end: he still has the word
            DUE.is("37: to " + kind, x.turn(0, 0, kind, false), kind == 2 ? 0 : who[kind]);
            DUE.is("37: to " + kind + ", end", x.turn(0, 0, kind, true), end[kind]);
            DUE.is("37: nobody holds, to " + kind, x.turn(0, 1, kind, false), 0);
            DUE.is("37: nobody holds, end, to " + kind, x.turn(0, 1, kind, true), 0);
            DUE.is("37: one holds, end, to " + kind, x.turn(0, 2, kind, true), 1);
        }
        x = Tapes.with("people 16;", "word 0 15;deny 1 15;");
        DUE.is("37: the 16th", x.turn(0, 0, 3, false), 15);
        DUE.is("37: the 16th's end", x.turn(0, 0, 3, true), 0);
        x = Tapes.with("people 1;till 0;", "word 0 0;deny 1 0;");
        DUE.is("37: to what he is", x.turn(0, 0, 3, true), 0);
        DUE.is("37: to another kind", x.turn(0, 0, 0, true), 1);
        DUE.is("37: his kind stays", x.village(0, 10), 3);
    }

    public static void main(String[] args) {
        fewestToCure();
        onThatDay();
        beside30Acts();
        late();
        setsOfOneOrTwo();
        wallsAlone();
        origin();
        end();
        keyAndSever();
        notBelowStrength();
        eachTieInOrder();
        worlds();
        fewestTies();
        fromThatDayOn();
        barredDayIsAnAct();
        oneDayOfNine();
        leastFromThenTo();
        noWallOfTheFurtherTie();
        often();
        justSoMany();
        shield();
        notByHimself();
        worst();
        deaf();
        turn();
        DUE.end();
    }
}
