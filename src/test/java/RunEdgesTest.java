/**
 * Term 2, what term 3 says of a run, and promises 9 to 13, 29 to 31 and 38 at their boundaries: for each sentence that names
 * one a method, which asks at the boundary, just inside it and just outside it. (Wrong arguments: ArgumentEdgesTest.)
 */
public final class RunEdgesTest {
    private static final Due DUE = new Due("RunEdgesTest");
    private static final String[] KINDS = {"first", "last", "most", "till", "both", "once"};
    /** Two who have the word on even days, and the denial on odd ones. */
    private static final String SWING = "last 0 1;tie 0 1 2 5;tie 1 0 2 5;";
    private static final String TO_AND_FRO = "word 0 0;word 0 1;deny 1 0;deny 1 1;";

    private static String times(String act, int n) {
        StringBuilder b = new StringBuilder();
        for (int i = 0; i < n; i++) {
            b.append(act);
        }
        return b.toString();
    }

    /** What one of a person (see person(), what) is on days 0, 1, .. . */
    private static void days(String label, SaidBack x, int person, int what, int... due) {
        for (int day = 0; day < due.length; day++) {
            DUE.is(label + ", day " + day, x.person(0, 0, day, person, what), due[day]);
        }
    }

    // (1) what one hears

    /** "at first nobody has anything"; "day by day from 0 on". */
    private static void fromDayZero() {
        for (String kind : KINDS) {
            SaidBack x = Tapes.with("people 1;" + kind + " 0;", "word 0 0;", "word 1 0;", "");
            DUE.is("2: told on day 0, " + kind, x.person(0, 0, 0, 0, 0), 1);
            DUE.is("2: not told on day 0, " + kind, x.person(0, 1, 0, 0, 0), 0);
            DUE.is("2: told on day 1, " + kind, x.person(0, 1, 1, 0, 0), 1);
            DUE.is("2: never told, " + kind, x.person(0, 2, 200, 0, 0), 0);
            DUE.is("2: without acts, " + kind, x.person(0, -1, 200, 0, 0), 0);
            DUE.is("2: without acts he says nothing, " + kind, x.person(0, -1, 200, 0, 4), 0);
        }
    }

    /** "9 for each word (deny) of that day", and of no other. */
    private static void nineEach() {
        SaidBack x = Tapes.with("people 2;doubt 0 1;", "word 5 0;deny 99 0;deny 99 0;word 99 1;deny 5 1;" + times("word 7 0;", 25));
        int[] words = {0, 9, 0, 225, 0};
        for (int i = 0; i < 5; i++) {
            DUE.is("2: words of day " + (4 + i), x.person(0, 0, 4 + i, 0, 1), words[i]);
        }
        DUE.is("2: denials of day 98", x.person(0, 0, 98, 0, 2), 0);
        DUE.is("2: denials of day 99", x.person(0, 0, 99, 0, 2), 18);
        DUE.is("2: denials of day 100", x.person(0, 0, 100, 0, 2), 0);
        DUE.is("2: words of day 99", x.person(0, 0, 99, 0, 1), 0);
        DUE.is("2: the other one's", x.person(0, 0, 99, 1, 1), 9);
    }

    /** "STRENGTHS of TIES by which it comes that day": of all of them, 40 even. */
    private static void strengthsTogether() {
        for (int n : new int[] {1, 2, 39, 40}) {
            SaidBack x = Tapes.with(times("tie 0 1 1 9;", n), "word 0 0;word 1 1;deny 0 1;");
            DUE.is("2: not on the day itself", x.person(0, 0, 0, 1, 1), 0);
            DUE.is("2: of " + n + " ties, and one word", x.person(0, 0, 1, 1, 1), 9 * n + 9);
            DUE.is("2: of " + n + " ties", x.person(0, 0, 2, 1, 1), 9 * n);
            DUE.is("2: on day 200", x.person(0, 0, 200, 1, 1), 9 * n);
            DUE.is("2: no denial of them", x.person(0, 0, 200, 1, 2), 0);
        }
    }

    /** "what is below his DOUBT is none", of the WORD and of the DENIAL each. */
    private static void doubt() {
        for (int doubt : new int[] {1, 8, 9, 10, 11, 99}) {
            SaidBack x = Tapes.with("people 1;doubt 0 " + doubt + ";both 0;", "word 0 0;deny 1 0;");
            int heard = doubt <= 9 ? 9 : 0;
            DUE.is("2: 9 of the word by a doubt of " + doubt, x.person(0, 0, 0, 0, 1), heard);
            DUE.is("2: 9 of the denial by a doubt of " + doubt, x.person(0, 0, 1, 0, 2), heard);
            DUE.is("2: he has, by a doubt of " + doubt, x.person(0, 0, 1, 0, 0), doubt <= 9 ? 3 : 0);
            DUE.is("3: any comes whatever his doubt " + doubt, x.heard(0, 0, 0, false, false), 0);
            DUE.is("3: any comes whatever his doubt, denied " + doubt, x.heard(0, 0, 0, true, false), 1);
        }
        // 90 of ten words, and a tie's strength
        for (int strength = 7; strength <= 9; strength++) {
            SaidBack x = Tapes.with("people 2;doubt 0 99;tie 1 0 1 " + strength + ";", "word 0 1;" + times("word 1 0;", 10));
            DUE.is("2: a doubt of 99, " + (90 + strength), x.person(0, 0, 1, 0, 1), strength == 9 ? 99 : 0);
            DUE.is("2: by a doubt of 99 he has, " + (90 + strength), x.person(0, 0, 1, 0, 0), strength == 9 ? 1 : 0);
        }
        // both together would be enough
        SaidBack x = Tapes.with("people 1;doubt 0 10;last 0;", "word 0 0;deny 0 0;");
        DUE.is("2: each alone is too little", x.person(0, 0, 0, 0, 0), 0);
        // the denial is below his doubt: the word is more than none
        x = Tapes.with("people 2;doubt 0 10;till 0;tie 1 0 1 1;", "word 0 1;word 1 0;deny 1 0;");
        DUE.is("2: 10 of the word", x.person(0, 0, 1, 0, 1), 10);
        DUE.is("2: 9 of the denial is none", x.person(0, 0, 1, 0, 2), 0);
        DUE.is("2: the denial is none", x.person(0, 0, 1, 0, 0), 1);
        DUE.is("2: a doubt of 1, a strength of 1", Tapes.with("tie 0 1 1 1;", "word 0 0;").person(0, 0, 1, 1, 1), 1);
        DUE.is("2: a doubt of 2, a strength of 1", Tapes.with("doubt 1 2;tie 0 1 1 1;", "word 0 0;").person(0, 0, 1, 1, 1), 0);
    }

    // (2) what one has

    /** 0 hears on days 1, 2, .. so much of the word by 1, so much of the denial by 2; and is told something on day 0. */
    private static void against(int kind, String ahead, int w, int d, int... due) {
        String word = w > 0 ? "tie 1 0 1 " + w + ";" : "";
        String denial = d > 0 ? "tie 2 0 1 " + d + ";" : "";
        SaidBack x = Tapes.with("people 3;" + KINDS[kind] + " 0;" + word + denial, "word 0 1;deny 0 2;" + ahead);
        String label = "2: " + KINDS[kind] + ", " + w + " against " + d + (ahead.isEmpty() ? "" : " behind " + ahead);
        for (int day = 1; day <= due.length; day++) {
            DUE.is(label + ", W on day " + day, x.person(0, 0, day, 0, 1), w);
            DUE.is(label + ", D on day " + day, x.person(0, 0, day, 0, 2), d);
            DUE.is(label + ", day " + day, x.person(0, 0, day, 0, 0), due[day - 1]);
        }
    }

    /** "FIRST, ONCE: if he has nothing, and W or D is above 0: the WORD, if W is D at least, else the DENIAL, for ever." */
    private static void firstAndOnce() {
        for (int kind = 0; kind < 6; kind += 5) {
            against(kind, "", 5, 4, 1, 1);
            against(kind, "", 5, 5, 1, 1);
            against(kind, "", 4, 5, 2, 2);
            against(kind, "", 0, 0, 0, 0);
            against(kind, "", 1, 0, 1, 1);
            against(kind, "", 0, 1, 2, 2);
            against(kind, "word 0 0;", 1, 9, 1, 1);
            against(kind, "word 0 0;", 0, 1, 1, 1);
            against(kind, "deny 0 0;", 9, 1, 2, 2);
            against(kind, "deny 0 0;", 1, 0, 2, 2);
        }
    }

    /** "LAST: the WORD, if W is above D, the DENIAL, if D is above W, in place of what he had." */
    private static void last() {
        for (String ahead : new String[] {"", "word 0 0;", "deny 0 0;"}) {
            int had = ahead.isEmpty() ? 0 : ahead.charAt(0) == 'w' ? 1 : 2;
            against(1, ahead, 5, 4, 1, 1);
            against(1, ahead, 4, 5, 2, 2);
            against(1, ahead, 5, 5, had, had);
            against(1, ahead, 0, 0, had, had);
            against(1, ahead, 1, 0, 1, 1);
            against(1, ahead, 0, 1, 2, 2);
        }
    }

    /** "above 0 he has the WORD, below 0 the DENIAL (at 0 what he had)". */
    private static void mostAroundZero() {
        against(2, "", 5, 5, 0, 0);
        against(2, "", 1, 0, 1, 1);
        against(2, "", 0, 1, 2, 2);
        against(2, "", 5, 4, 1, 1);
        against(2, "", 4, 5, 2, 2);
        // his sum is 9, then 1, -7; 0, -9; -1 is no sum of these
        against(2, "word 0 0;", 0, 8, 1, 2);
        against(2, "word 0 0;", 0, 9, 1, 2);
        against(2, "word 0 0;", 0, 5, 1, 2);
        against(2, "word 0 0;", 0, 3, 1, 1, 1, 2);
        against(2, "word 0 0;", 2, 5, 1, 1, 1, 2);
        against(2, "deny 0 0;", 8, 0, 2, 1);
        against(2, "deny 0 0;", 9, 0, 2, 1);
        against(2, "deny 0 0;", 5, 0, 2, 1);
        against(2, "deny 0 0;", 3, 0, 2, 2, 2, 1);
        against(2, "deny 0 0;", 5, 2, 2, 2, 2, 1);
        // at 0 on day 0 he has nothing, by 1 something
        against(2, "word 0 0;deny 0 0;", 0, 0, 0);
        against(2, "word 0 0;deny 0 0;", 1, 0, 1);
        against(2, "word 0 0;deny 0 0;", 0, 1, 2);
    }

    /** "his SUM (0 at first) is W less D more, within -99 and 99". */
    private static void mostWithin99() {
        String up = "people 2;most 0;tie 1 0 1 ";
        days("2: 98, then 99", Tapes.with(up + "8;", times("word 0 0;", 10) + "word 0 1;"), 0, 3, 90, 98, 99, 99);
        days("2: 99", Tapes.with(up + "9;", times("word 0 0;", 10) + "word 0 1;"), 0, 3, 90, 99, 99, 99);
        days("2: less by 1", Tapes.with(up + "1;", times("word 0 0;", 11) + "deny 0 1;"), 0, 3, 99, 98, 97);
        days("2: 108 is 99", Tapes.with(up + "1;", times("word 0 0;", 12) + "deny 0 1;"), 0, 3, 99, 98, 97);
        days("2: -98, then -99", Tapes.with(up + "8;", times("deny 0 0;", 10) + "deny 0 1;"), 0, 3, -90, -98, -99, -99);
        days("2: -99", Tapes.with(up + "9;", times("deny 0 0;", 10) + "deny 0 1;"), 0, 3, -90, -99, -99, -99);
        days("2: more by 1", Tapes.with(up + "1;", times("deny 0 0;", 11) + "word 0 1;"), 0, 3, -99, -98, -97);
        days("2: -108 is -99", Tapes.with(up + "1;", times("deny 0 0;", 12) + "word 0 1;"), 0, 3, -99, -98, -97);
        SaidBack x = Tapes.with("people 6;first 0;last 1;till 3;both 4;once 5;", "word 0 0;word 0 1;word 0 3;word 0 4;word 0 5;");
        for (int p = 0; p < 6; p++) {
            DUE.is("2: no SUM but of MOST " + p, x.person(0, 0, 9, p, 3), 0);
        }
    }

    /** "TILL: if D is above 0 he has the DENIAL, for ever; else the WORD, if W is above 0 and he has nothing." */
    private static void till() {
        against(3, "", 5, 4, 2, 2);
        against(3, "", 9, 1, 2, 2);
        against(3, "", 1, 0, 1, 1);
        against(3, "", 0, 1, 2, 2);
        against(3, "", 0, 0, 0, 0);
        against(3, "word 0 0;", 9, 1, 2, 2);
        against(3, "word 0 0;", 1, 0, 1, 1);
        against(3, "deny 0 0;", 9, 0, 2, 2);
    }

    /** "BOTH: the WORD, too, if W is above 0; the DENIAL, too, if D is above 0." */
    private static void both() {
        against(4, "", 0, 0, 0, 0);
        against(4, "", 1, 0, 1, 1);
        against(4, "", 0, 1, 2, 2);
        against(4, "", 1, 1, 3, 3);
        against(4, "", 1, 9, 3, 3);
        against(4, "word 0 0;", 0, 1, 3, 3);
        against(4, "deny 0 0;", 1, 0, 3, 3);
        against(4, "word 0 0;", 1, 0, 1, 1);
        against(4, "deny 0 0;", 0, 1, 2, 2);
    }

    // (3) what one says

    /** "if he has said it on fewer days than it TIRES by"; "0 at first: never". */
    private static void tires() {
        for (int n : new int[] {0, 1, 2, 3, 29, 30}) {
            SaidBack word = Tapes.with("people 1;tires " + n + " 0;", "word 3 0;", "deny 3 0;");
            SaidBack denial = Tapes.with("people 1;tires 0 " + n + ";", "deny 3 0;", "word 3 0;");
            for (int day : new int[] {2, 3, 4, 2 + n, 3 + n, 4 + n, 100, 200}) {
                boolean says = day >= 3 && (n == 0 || day < 3 + n);
                DUE.is("2: tires by " + n + ", the word on " + day, word.person(0, 0, day, 0, 4), says ? 1 : 0);
                DUE.is("2: tires by " + n + ", the denial on " + day, denial.person(0, 0, day, 0, 4), says ? 2 : 0);
                DUE.is("2: the denial never tires, " + day, word.person(0, 1, day, 0, 4), day >= 3 ? 2 : 0);
                DUE.is("2: the word never tires, " + day, denial.person(0, 1, day, 0, 4), day >= 3 ? 1 : 0);
                DUE.is("2: he has it all the same, " + day, word.person(0, 0, day, 0, 0), day >= 3 ? 1 : 0);
            }
        }
        // of each he counts its own days, and goes on counting when he has it again
        days("2: both, each by its own", Tapes.with("people 1;both 0;tires 1 3;", "word 0 0;deny 1 0;"), 0, 4, 1, 2, 2, 2, 0, 0);
        days("2: the word again", Tapes.with("people 1;last 0;tires 3 0;", "word 0 0;deny 1 0;word 2 0;"), 0, 4, 1, 2, 1, 1, 0, 0);
        days("2: the denial again", Tapes.with("people 1;last 0;tires 0 3;", "deny 0 0;word 1 0;deny 2 0;"), 0, 4, 2, 1, 2, 2, 0, 0);
    }

    /** "(ONCE: on none)", whatever it TIRES by. */
    private static void onceAlone() {
        for (int n : new int[] {0, 1, 2, 30}) {
            String village = "people 1;once 0;tires " + n + " " + n + ";";
            days("2: once, tires by " + n, Tapes.with(village, "word 1 0;word 5 0;"), 0, 4, 0, 1, 0, 0, 0, 0, 0);
            days("2: once, tires by " + n, Tapes.with(village, "deny 1 0;deny 5 0;"), 0, 4, 0, 2, 0, 0, 0, 0, 0);
        }
    }

    /** "by each of his TIES that has no WALL that day"; "wall: .. from which to which day". */
    private static void walls() {
        for (int from : new int[] {0, 1, 3, 98, 99}) {
            for (int to : new int[] {from, from + 1, 99}) {
                if (to > 99) {
                    continue;
                }
                SaidBack x = Tapes.with("people 3;both 0;tie 0 1 1 5;tie 0 2 1 4;", "word 0 0;deny 0 0;wall 0 " + from + " " + to + ";");
                for (int day : new int[] {0, from - 1, from, to, to + 1}) {
                    if (day < 0) {
                        continue;
                    }
                    int open = day >= from && day <= to ? 0 : 5;
                    String label = "2: a wall from " + from + " to " + to + ", said on " + day;
                    DUE.is(label, x.person(0, 0, day + 1, 1, 1), open);
                    DUE.is(label + ", denied", x.person(0, 0, day + 1, 1, 2), open);
                    DUE.is(label + ", by another tie", x.person(0, 0, day + 1, 2, 1), 4);
                    DUE.is(label + ", he says it", x.person(0, 0, day, 0, 4), 3);
                }
            }
        }
        // what is on the way behind a wall comes
        days("2: a wall behind it", Tapes.with("people 2;once 0;tie 0 1 3 5;", "word 1 0;wall 0 2 9;"), 1, 1, 0, 0, 0, 0, 5, 0);
        days("2: two walls", Tapes.with("people 2;tie 0 1 1 5;", "word 0 0;wall 0 1 1;wall 0 3 4;"), 1, 1, 0, 5, 0, 5, 0, 0, 5);
    }

    /** "the WORD comes DAYS later, the DENIAL DAYS and SLOW later". */
    private static void comesLater() {
        for (int late = 1; late <= 3; late++) {
            for (int slow = 0; slow <= 3; slow++) {
                SaidBack x = Tapes.with("people 2;once 0;tie 0 1 " + late + " 7;slow " + slow + ";", "word 5 0;", "deny 5 0;");
                for (int day = 4; day <= 13; day++) {
                    String label = "2: days " + late + ", slow " + slow + ", on day " + day;
                    DUE.is(label + ", the word", x.person(0, 0, day, 1, 1), day == 5 + late ? 7 : 0);
                    DUE.is(label + ", the denial", x.person(0, 1, day, 1, 2), day == 5 + late + slow ? 7 : 0);
                }
                DUE.is("3: heard, days " + late, x.heard(0, 0, 1, false, false), 5 + late);
                DUE.is("3: heard, slow " + slow, x.heard(0, 1, 1, true, false), 5 + late + slow);
            }
        }
    }

    /** "(ACTS of those who are not there, of TIES that are not, do nothing.)" */
    private static void whoIsNotThere() {
        for (int people : new int[] {1, 2, 15}) {
            SaidBack x = Tapes.with("people " + people + ";", "word 0 " + people + ";deny 0 15;", "word 0 " + (people - 1) + ";");
            DUE.is("1: one behind the last", x.holders(0, 0, 200, false), 0);
            DUE.is("1: one behind the last, denied", x.holders(0, 0, 200, true), 0);
            DUE.is("1: the last one", x.holders(0, 1, 0, false), 1 << people - 1);
        }
        DUE.is("1: all 16 are there", Tapes.with("people 16;", "word 0 15;").holders(0, 0, 0, false), 1 << 15);
        SaidBack x = Tapes.with("tie 0 1 1 5;", "word 0 0;wall 1 0 99;wall 39 0 99;", "word 0 0;wall 0 0 99;");
        DUE.is("1: a wall of the tie behind the last", x.person(0, 0, 1, 1, 1), 5);
        DUE.is("1: a wall of the last tie", x.person(0, 1, 1, 1, 1), 0);
        x = Tapes.with(times("tie 1 0 1 5;", 39) + "tie 0 1 1 5;", "word 0 0;wall 39 0 99;", "word 0 0;wall 38 0 99;");
        DUE.is("1: a wall of the 40th tie", x.person(0, 0, 1, 1, 1), 0);
        DUE.is("1: a wall of the 39th", x.person(0, 1, 1, 1, 1), 5);
    }

    // HOLDS, LAST DAY, RING, CLEAN

    /** "HOLDS: he has the WORD and not the DENIAL"; "DENIERS: those who have the DENIAL". */
    private static void holds() {
        SaidBack x = Tapes.with("people 4;both 0 1 2 3;", "word 0 1;deny 0 2;word 0 3;deny 0 3;");
        DUE.is("2: who holds", x.holders(0, 0, 0, false), 2);
        DUE.is("3: who denies", x.holders(0, 0, 0, true), 12);
        int[] has = {0, 1, 2, 3};
        int[] held = {0, 1, 0, 0};
        for (int p = 0; p < 4; p++) {
            DUE.is("9: he has " + has[p], x.person(0, 0, 0, p, 0), has[p]);
            DUE.is("9: he says " + has[p], x.person(0, 0, 0, p, 4), has[p]);
            DUE.is("12: held by who has " + has[p], x.held(0, 0, p, 0), held[p]);
        }
    }

    private static void run(String label, String village, String telling, int... due) {
        SaidBack x = Tapes.with(village, telling);
        for (int what = 0; what < due.length; what++) {
            DUE.is("11: " + label + ", " + what, x.run(0, 0, what), due[what]);
        }
    }

    /** "LAST DAY: the greatest day of its ACTS (the end of a wall; 0 without)". */
    private static void lastDay() {
        String[][] due = {{"", "0"}, {"word 0 0;", "0"}, {"word 1 0;", "1"}, {"deny 98 0;", "98"}, {"deny 99 0;word 98 0;", "99"},
            {"word 99 1;", "99"}, {"wall 0 7 7;", "7"}, {"wall 0 7 8;word 7 0;", "8"}, {"wall 0 7 8;word 9 0;", "9"},
            {"wall 0 0 99;", "99"}, {"wall 0 98 98;deny 97 1;", "98"}, {"word 3 0;deny 5 1;word 4 0;", "5"}};
        for (String[] one : due) {
            SaidBack x = Tapes.with("tie 0 1 1 1;", one[0]);
            DUE.is("11: last day of '" + one[0] + "'", x.run(0, 0, 3), Integer.parseInt(one[1]));
        }
        DUE.is("11: without acts", Tapes.with("").run(0, -1, 3), 0);
    }

    /** "RING: the least day from LAST DAY on": of each part of the STATE. */
    private static void ringDay() {
        run("nothing", "people 1;", "", 0, 1, 1, 0);
        run("who has it", "people 1;", "word 0 0;", 0, 1, 0, 0);
        run("not ahead of the last day", "people 1;", "word 0 0;word 5 0;", 5, 1, 0, 5);
        run("not ahead of a wall's end", "tie 0 1 1 1;", "wall 0 2 6;", 6, 1, 1, 6);
        for (int n : new int[] {0, 1, 2, 29, 30}) {
            int day = n == 0 ? 0 : n - 1;
            run("the word tires by " + n, "people 1;tires " + n + " 7;", "word 0 0;", day, 1, 0, 0);
            run("the denial tires by " + n, "people 1;tires 7 " + n + ";", "deny 0 0;", day, 1, 1, 0);
            run("once, tires by " + n, "people 1;once 0;tires " + n + " " + n + ";", "word 0 0;", 0, 1, 0, 0);
        }
        run("his sum, by 9", "most 1;tie 0 1 1 9;", "word 0 0;", 11, 1, 0, 0);
        run("his sum, by 1", "most 1;tie 0 1 1 1;", "word 0 0;", 99, 1, 0, 0);
        run("his sum, by -1", "most 1;tie 0 1 1 1;", "deny 0 0;", 99, 1, 1, 0);
        for (int late = 1; late <= 3; late++) {
            for (int slow = 0; slow <= 3; slow++) {
                // he hears it, and it is nothing to him: what is still to come alone changes
                String village = "once 0;doubt 1 99;tie 0 1 " + late + " 1;slow " + slow + ";";
                run("still to come, " + late, village, "word 0 0;", late, 1, 0, 0);
                run("still to come, denied, " + late + " " + slow, village, "deny 0 0;", late + slow, 1, 1, 0);
                run("still to come, behind day 4", village, "word 4 0;", 4 + late, 1, 0, 4);
            }
        }
    }

    /** "what is still to come, day by day": how much to whom, by whichever ties. */
    private static void asMuchToCome() {
        // C, 2, hears on each odd day 5 of the word and 5 of the denial: on day 5 of X, 0, the word and of Y, 1, the denial,
        // then of Y the word and of X the denial; P, 3, and Q, 4, make Y go to and fro
        String village = "people 5;last 0 1 2 3 4;tie 0 2 2 5;tie 1 2 2 5;tie 3 4 2 5;tie 4 3 2 5;tie 3 1 2 5;";
        String telling = "word 3 3;word 3 4;word 3 0;deny 3 1;deny 4 0;deny 4 1;deny 4 3;deny 4 4;";
        SaidBack x = Tapes.with(village, telling);
        int[] y = {2, 2, 1, 2, 1, 2, 1};
        for (int i = 0; i < y.length; i++) {
            DUE.is("2: Y on day " + (3 + i), x.person(0, 0, 3 + i, 1, 0), y[i]);
            DUE.is("2: X on day " + (3 + i), x.person(0, 0, 3 + i, 0, 0), i == 0 ? 1 : 2);
        }
        DUE.is("2: C hears the word on day 5", x.person(0, 0, 5, 2, 1), 5);
        DUE.is("2: C hears the denial on day 5", x.person(0, 0, 5, 2, 2), 5);
        DUE.is("2: C hears the word on day 7", x.person(0, 0, 7, 2, 1), 5);
        DUE.is("2: C hears the denial on day 7", x.person(0, 0, 7, 2, 2), 5);
        // C hears two denials on even days: he has it from day 6 on, and so the state of day 6 comes again on day 8
        DUE.is("11: ring", x.run(0, 0, 0), 6);
        DUE.is("11: ring's length", x.run(0, 0, 1), 2);
        // C has it from the beginning: the state of day 4 comes again on day 6, what is to come to C by other ties
        x = Tapes.with(village, telling + "deny 4 2;");
        DUE.is("11: ring, by other ties as much", x.run(0, 0, 0), 4);
        DUE.is("11: ring's length, by other ties as much", x.run(0, 0, 1), 2);
    }

    /** "RING: .. day .. up to 200, whose STATE is that of a later one, up to 200; its LENGTH"; "NONE: there is none". */
    private static void ringUpTo200() {
        StringBuilder village = new StringBuilder("people 16;last 0 1 2 3 4 5 6 7 8 9 10 11 12 13 14 15;");
        StringBuilder acts = new StringBuilder();
        int first = 0;
        for (int size : new int[] {4, 5, 7}) {
            for (int i = 0; i < size; i++) {
                village.append("tie ").append(first + i).append(' ').append(first + (i + 1) % size).append(" 1 1;");
                acts.append(i == 0 ? "word 0 " : "deny 0 ").append(first + i).append(';');
            }
            first += size;
        }
        for (int last = 58; last <= 63; last++) {
            int ring = last <= 60 ? last : -1;
            run("140 days later is " + (last + 140), village.toString(), acts + "wall 39 0 " + last + ";",
                ring, last <= 60 ? 140 : -1, 0, last);
        }
        // 1's sum is 99 from day 198, 199, 200 on
        run("day 198", "most 1;tie 0 1 1 1;", "word 0 0;wall 0 0 98;", 198, 1, 0, 98);
        run("day 199", "most 1;tie 0 1 1 1;", "word 0 0;wall 0 0 99;", 199, 1, 0, 99);
        run("day 200 has no later one", "most 1;tie 0 1 2 1;", "word 0 0;wall 0 0 99;", -1, -1, 0, 99);
    }

    /** "CLEAN: there is a RING, and from its day on, for its LENGTH, nobody HOLDS." */
    private static void clean() {
        run("they hold on the ring's second day", SWING, TO_AND_FRO, 1, 2, 0, 1);
        run("they hold on the ring's first day", SWING + "people 3;", TO_AND_FRO + "deny 2 2;", 2, 2, 0, 2);
        run("one holds on the day ahead of the ring", "people 1;last 0;", "word 0 0;deny 9 0;", 9, 1, 1, 9);
        run("one holds on the ring's only day", "people 1;last 0;", "deny 0 0;word 9 0;", 9, 1, 0, 9);
        run("who has both doesn't hold", "people 1;both 0;", "word 0 0;deny 3 0;", 3, 1, 1, 3);
        run("nobody holds, but there is no ring", "most 1;tie 0 1 2 1;", "deny 0 0;wall 0 0 99;", -1, -1, 0, 99);
        run("nobody holds, and there is a ring", "most 1;tie 0 1 1 1;", "deny 0 0;wall 0 0 99;", 199, 1, 1, 99);
        DUE.is("10: nobody holds, but there is no ring",
            Tapes.with("most 1;tie 0 1 2 1;", "deny 0 0;wall 0 0 99;").whole(0, 0, 0), 0);
    }

    // PEAK, HALF

    /** "PEAK: the first day, up to 200, on which most HOLD, and how many." */
    private static void peak() {
        String village = "people 4;last 0 1 2 3;";
        String[][] due = {
            {"", "0", "0"}, {"deny 0 0;", "0", "0"}, {"word 0 0;", "0", "1"}, {"word 1 0;", "1", "1"}, {"word 2 0;", "2", "1"},
            {"word 0 0;word 0 1;deny 1 0;word 2 0;", "0", "2"}, {"word 0 0;word 1 1;deny 2 0;word 3 0;", "1", "2"},
            {"word 0 0;word 0 1;deny 1 0;word 2 0;word 2 2;", "2", "3"}, {"word 0 0;word 1 1;deny 1 0;", "0", "1"},
            {"word 0 0;word 99 1;", "99", "2"}, {"word 5 0;word 5 1;word 6 2;word 6 3;deny 7 0;", "6", "4"}};
        for (String[] one : due) {
            SaidBack x = Tapes.with(village, one[0]);
            DUE.is("11: peak of '" + one[0] + "'", x.run(0, 0, 4), Integer.parseInt(one[1]));
            DUE.is("11: how many by '" + one[0] + "'", x.run(0, 0, 5), Integer.parseInt(one[2]));
        }
        DUE.is("11: all 16", Tapes.with("people 16;", allWords(16, 3)).run(0, 0, 5), 16);
    }

    private static String allWords(int n, int day) {
        StringBuilder b = new StringBuilder();
        for (int p = 0; p < n; p++) {
            b.append("word ").append(day).append(' ').append(p).append(';');
        }
        return b.toString();
    }

    /** "HALF: the first day, up to 200, on which half of PEOPLE at least HOLD"; "(NONE: never)". */
    private static void half() {
        for (int people = 1; people <= 16; people++) {
            int enough = (people + 1) / 2;
            for (int told = Math.max(0, enough - 1); told <= Math.min(people, enough + 1); told++) {
                SaidBack x = Tapes.with("people " + people + ";", allWords(told, 3), allWords(told, 3) + "word 5 " + (people - 1) + ";");
                int due = told >= enough ? 3 : -1;
                DUE.is("11: half of " + people + ", " + told + " hold", x.run(0, 0, 6), due);
                due = told >= enough ? 3 : told + 1 >= enough ? 5 : -1;
                DUE.is("11: half of " + people + ", " + told + " and one more", x.run(0, 1, 6), due);
            }
        }
        DUE.is("11: half, on day 0", Tapes.with("", "word 0 1;").run(0, 0, 6), 0);
        DUE.is("11: half, for a day", Tapes.with("people 1;last 0;", "word 7 0;deny 8 0;").run(0, 0, 6), 7);
    }

    // the last days: 1's sum is -99 and grows by one a day, or 99 and goes down

    /** 1 has the word on day 198 + the days of the tie by which it comes to him: 199, 200, never. */
    private static SaidBack rising(int days) {
        return Tapes.with("people 4;most 1;tie 0 1 " + days + " 1;tie 1 2 1 1;", "word 99 0;" + times("deny 0 1;", 11),
            times("deny 0 1;", 11));
    }

    /** PEAK, HALF, EVER, HEALED, HELD, WAVERS, FIRM, UNLIKE, HEARD and CHAIN "up to 200". */
    private static void upTo200() {
        for (int days = 1; days <= 3; days++) {
            SaidBack x = rising(days);
            String label = "word on day " + (198 + days) + ": ";
            boolean comes = days <= 2;
            DUE.is("9: " + label + "his sum", x.person(0, 0, 200, 1, 3), 3 - days);
            DUE.is("9: " + label + "he has", x.person(0, 0, 200, 1, 0), comes ? 1 : 2);
            DUE.is("11: " + label + "peak", x.run(0, 0, 4), comes ? 198 + days : 99);
            DUE.is("11: " + label + "peak's holders", x.run(0, 0, 5), comes ? 2 : 1);
            DUE.is("11: " + label + "half", x.run(0, 0, 6), comes ? 198 + days : -1);
            DUE.is("30: " + label + "ever", x.whole(0, 0, 0), comes ? 3 : 1);
            DUE.is("12: " + label + "held to 200", x.held(0, 0, 1, 200), 3 - days);
            DUE.is("12: " + label + "held to 199", x.held(0, 0, 1, 199), days == 1 ? 1 : 0);
            DUE.is("12: " + label + "held to 198", x.held(0, 0, 1, 198), 0);
            DUE.is("31: " + label + "wavers", x.wavers(0, 0, 1), comes ? 2 : 1);
            DUE.is("30: " + label + "firm", x.whole(0, 0, 3), 15);
            // the word of 1 comes to 2 a day later
            DUE.is("13: " + label + "heard", x.heard(0, 0, 2, false, false), days == 1 ? 200 : -2);
            DUE.is("13: " + label + "heard from", x.heard(0, 0, 2, false, true), days == 1 ? 1 : -2);
            DUE.is("38: " + label + "chain", x.chain(0, 0, 2, -1), days == 1 ? 2 : 0);
            DUE.is("38: " + label + "chain, 0", x.chain(0, 0, 2, 0), days == 1 ? 1 : -2);
            DUE.is("38: " + label + "chain, 1", x.chain(0, 0, 2, 1), days == 1 ? 0 : -2);
            DUE.is("38: " + label + "chain, 2", x.chain(0, 0, 2, 2), -2);
        }
    }

    /** 1 has the denial from day 199 on, who hears him from day 200 on, who hears that one from day 201 on. */
    private static SaidBack falling(int people) {
        String ties = people > 2 ? "tie 1 2 1 1;last 2;" : "";
        ties += people > 3 ? "tie 2 3 1 1;last 3;" : "";
        return Tapes.with("people " + people + ";most 1;tie 0 1 1 1;" + ties, times("word 0 1;", 11) + "deny 99 0;");
    }

    /**
     * "QUIET: the first day, up to 200, from which on to 200 nobody SAYS the WORD"; "201: they SAY it on day 200";
     * "HEALED: the last day, up to 200, on which anybody HOLDS"; "NONE: never".
     */
    private static void quietAndHealed() {
        int[] quiet = {199, 200, 201};
        int[] healed = {198, 199, 200};
        for (int people = 2; people <= 4; people++) {
            SaidBack x = falling(people);
            DUE.is("30: quiet, " + people, x.whole(0, 0, 1), quiet[people - 2]);
            DUE.is("30: healed, " + people, x.whole(0, 0, 2), healed[people - 2]);
            DUE.is("30: who still says it on day 200, " + people, x.person(0, 0, 200, people - 1, 4), people == 4 ? 1 : 2);
        }
        SaidBack x = Tapes.with("people 1;last 0;once 0;", "", "word 0 0;", "word 1 0;");
        int[] once = {0, 1, 2};
        int[] ends = {-1, 200, 200};
        for (int t = 0; t < 3; t++) {
            DUE.is("30: quiet, once, " + t, x.whole(0, t, 1), once[t]);
            DUE.is("30: healed, once, " + t, x.whole(0, t, 2), ends[t]);
        }
        x = Tapes.with("people 1;last 0;", "deny 0 0;", "word 0 0;deny 1 0;", "word 1 0;deny 2 0;");
        for (int t = 0; t < 3; t++) {
            DUE.is("30: quiet, denied, " + t, x.whole(0, t, 1), t == 0 ? 0 : t);
            DUE.is("30: healed, denied, " + t, x.whole(0, t, 2), t - 1);
            DUE.is("30: ever, denied, " + t, x.whole(0, t, 0), t == 0 ? 0 : 1);
        }
        // who has both says the word and doesn't hold
        x = Tapes.with("people 1;both 0;", "word 0 0;deny 0 0;");
        DUE.is("30: never quiet", x.whole(0, 0, 1), 201);
        DUE.is("30: never ill", x.whole(0, 0, 2), -1);
    }

    /** "EVER: all who HOLD on any day up to 200 (bits)": on day 0 alone, on day 200 alone, in a ring. */
    private static void ever() {
        SaidBack x = Tapes.with("people 4;last 0 1 2;both 3;", "word 0 0;deny 1 0;word 7 1;deny 8 1;deny 0 2;word 9 3;deny 9 3;");
        DUE.is("30: a day each, not by both", x.whole(0, 0, 0), 3);
        DUE.is("30: in a ring", Tapes.with(SWING, TO_AND_FRO).whole(0, 0, 0), 3);
        DUE.is("30: on day 200", rising(2).whole(0, 0, 0), 3);
        DUE.is("30: on day 201", rising(3).whole(0, 0, 0), 1);
        DUE.is("30: the 16th", Tapes.with("people 16;", "word 3 15;").whole(0, 0, 0), 1 << 15);
    }

    /** "FIRM: PEOPLE (bits) who have the same from the day of PEAK on to 200." */
    private static void firm() {
        // PEAK is on day 0: 0 is denied on day 1 and told again, 1 denied on day 3, 2 denies, 3 is told on day 3, 4 has both
        SaidBack x = Tapes.with("people 6;last 0 1 2;both 4;",
            "word 0 0;word 0 1;deny 1 0;word 2 0;deny 0 2;deny 3 1;word 3 3;deny 0 4;word 5 4;");
        DUE.is("11: peak", x.run(0, 0, 4), 0);
        DUE.is("30: firm, a denier and one who has nothing", x.whole(0, 0, 3), 36);
        // what they had ahead of PEAK is nothing to it
        x = Tapes.with("people 3;last 0 1 2;", "deny 0 0;word 1 0;word 1 1;word 0 2;deny 1 2;");
        DUE.is("11: peak on day 1", x.run(0, 0, 4), 1);
        DUE.is("30: firm from day 1 on", x.whole(0, 0, 3), 7);
        DUE.is("30: one turns on day 199", falling(2).whole(0, 0, 3), 0);
        // 2 turns on day 200, 3 on day 201
        DUE.is("30: one turns on day 200", falling(3).whole(0, 0, 3), 0);
        DUE.is("30: one turns on day 201", falling(4).whole(0, 0, 3), 8);
        DUE.is("30: peak on day 200", rising(2).whole(0, 0, 3), 15);
        DUE.is("30: all firm who have nothing", Tapes.with("people 16;", "").whole(0, 0, 3), 65535);
    }

    /** "WAVERS of one: how often he has something else than on the day ahead, up to day 200 (ahead of day 0 he has nothing)." */
    private static void wavers() {
        String[][] due = {{"", "0"}, {"word 0 0;", "1"}, {"word 1 0;", "1"}, {"deny 0 0;", "1"}, {"word 0 0;deny 1 0;", "2"},
            {"word 0 0;deny 2 0;", "2"}, {"word 1 0;deny 2 0;", "2"}, {"word 0 0;deny 1 0;word 2 0;", "3"}, {"word 0 0;word 5 0;", "1"}};
        for (String[] one : due) {
            SaidBack x = Tapes.with("people 1;last 0;", one[0]);
            DUE.is("31: '" + one[0] + "'", x.wavers(0, 0, 0), Integer.parseInt(one[1]));
        }
        SaidBack x = Tapes.with("people 2;both 0;both 1;", "word 3 0;deny 4 0;word 0 1;deny 0 1;");
        DUE.is("31: one, then both", x.wavers(0, 0, 0), 2);
        DUE.is("31: both at once", x.wavers(0, 0, 1), 1);
        DUE.is("31: day by day, from day 0 on", Tapes.with(SWING, TO_AND_FRO).wavers(0, 0, 0), 201);
        int[] falls = {1, 2, 2, 1};
        for (int p = 0; p < 4; p++) {
            DUE.is("31: of " + p + ", turned on day " + (198 + p), falling(4).wavers(0, 0, p), falls[p]);
        }
    }

    /** "HELD of one: on how many days, 0 .. n, he HOLDS." */
    private static void held() {
        SaidBack x = Tapes.with("people 2;last 0;", "word 0 0;deny 2 0;word 4 0;word 99 1;");
        int[] due = {1, 2, 2, 2, 3, 4};
        for (int n = 0; n < due.length; n++) {
            DUE.is("12: 0 .. " + n, x.held(0, 0, 0, n), due[n]);
        }
        DUE.is("12: 0 .. 199", x.held(0, 0, 0, 199), 198);
        DUE.is("12: 0 .. 200", x.held(0, 0, 0, 200), 199);
        DUE.is("12: 0 .. 98", x.held(0, 0, 1, 98), 0);
        DUE.is("12: 0 .. 99", x.held(0, 0, 1, 99), 1);
        int[][] falls = {{0, 0}, {199, 199}, {199, 199}, {198, 199}};
        for (int p = 0; p < 4; p++) {
            DUE.is("12: 0 .. 199, of " + p, falling(4).held(0, 0, p, 199), falls[p][0]);
            DUE.is("12: 0 .. 200, of " + p, falling(4).held(0, 0, p, 200), falls[p][1]);
        }
    }

    /** "HEARD of one: the first day"; "FROM: the least one whose TIE brings it then (NONE: from outside alone)". */
    private static void heardFrom() {
        // 2 hears of 1 on day 3; of 0, too; and from outside
        String village = "people 3;tie 1 2 3 1;tie 0 2 2 1;";
        String[][] due = {{"word 0 1;", "3", "1"}, {"word 0 1;word 1 0;", "3", "0"}, {"word 0 1;word 2 0;", "3", "1"},
            {"word 1 1;word 0 0;", "2", "0"}, {"word 0 1;word 3 2;", "3", "1"}, {"word 0 1;word 2 2;", "2", "-1"},
            {"word 0 1;word 4 2;", "3", "1"}, {"word 0 2;", "0", "-1"}, {"word 99 2;", "99", "-1"}, {"deny 0 1;", "-2", "-2"},
            {"", "-2", "-2"}};
        for (String[] one : due) {
            SaidBack x = Tapes.with(village, one[0], one[0].replace("word", "!").replace("deny", "word").replace("!", "deny"));
            for (int t = 0; t < 2; t++) {
                boolean deny = t == 1;
                DUE.is("13: '" + one[0] + "' " + deny, x.heard(0, t, 2, deny, false), Integer.parseInt(one[1]));
                DUE.is("13: '" + one[0] + "' from " + deny, x.heard(0, t, 2, deny, true), Integer.parseInt(one[2]));
            }
        }
        // his own tie is none by which it comes to him
        SaidBack x = Tapes.with("people 2;tie 0 1 1 1;tie 1 0 1 1;", "word 0 0;");
        DUE.is("13: from outside, not by the way back", x.heard(0, 0, 0, false, true), -1);
        DUE.is("13: by a wall it doesn't come", Tapes.with("tie 0 1 1 1;", "word 0 0;wall 0 0 4;").heard(0, 0, 1, false, false), 6);
    }

    /** "CHAIN ..till it was from outside alone": how many, the k-th, no k-th more, no k below NONE. */
    private static void chain() {
        StringBuilder b = new StringBuilder("people 16;");
        for (int p = 0; p < 15; p++) {
            b.append("tie ").append(p).append(' ').append(p + 1).append(" 3 1;");
        }
        SaidBack x = Tapes.with(b.toString(), "word 0 0;", "word 9 3;word 0 0;", "deny 0 0;");
        for (int p = 0; p < 16; p++) {
            DUE.is("38: of " + p, x.chain(0, 0, p, -1), p);
            DUE.is("38: of " + p + ", the first", x.chain(0, 0, p, 0), p == 0 ? -2 : p - 1);
            DUE.is("38: of " + p + ", the last", x.chain(0, 0, p, p - 1), 0);
            DUE.is("38: of " + p + ", no more", x.chain(0, 0, p, p), -2);
            DUE.is("38: of " + p + ", none below", x.chain(0, 0, p, -2), -2);
            // on day 9 3 hears it of 2 and from outside
            DUE.is("38: beside outside, of " + p, x.chain(0, 1, p, -1), p);
            DUE.is("38: of the word alone, " + p, x.chain(0, 2, p, -1), 0);
            DUE.is("38: by none, behind another one, " + p, x.chain(0, -1, p, -1), 0);
        }
        x = Tapes.with(b.toString(), "word 8 3;word 0 0;");
        DUE.is("38: from outside alone, a day ahead", x.chain(0, 0, 3, -1), 0);
        DUE.is("38: behind him", x.chain(0, 0, 5, -1), 2);
        DUE.is("38: behind him, the last", x.chain(0, 0, 5, 1), 3);
        DUE.is("38: ahead of him", x.chain(0, 0, 2, -1), 2);
    }

    /** "by a TELLING (NONE: without ACTS)": of what another one left on later days nothing comes. */
    private static void nothingOfAnotherRun() {
        StringBuilder b = new StringBuilder("people 6;both 0 1 2 3 4 5;");
        for (int p = 0; p < 5; p++) {
            b.append("tie ").append(p).append(' ').append(p + 1).append(" 3 1;");
        }
        SaidBack x = Tapes.with(b.toString(), "word 0 0;deny 0 0;");
        for (int p = 0; p < 6; p++) {
            DUE.is("38: by the telling, " + p, x.chain(0, 0, p, -1), p);
            DUE.is("38: by none, " + p, x.chain(0, -1, p, -1), 0);
            DUE.is("13: by the telling, " + p, x.heard(0, 0, p, true, false), 3 * p);
            DUE.is("13: by none, " + p, x.heard(0, -1, p, false, false), -2);
            DUE.is("13: by none, denied, " + p, x.heard(0, -1, p, true, false), -2);
            DUE.is("31: by the telling, " + p, x.wavers(0, 0, p), 1);
            DUE.is("31: by none, " + p, x.wavers(0, -1, p), 0);
            for (int what = 0; what < 5; what++) {
                DUE.is("9: by the telling, " + p, x.person(0, 0, 200, p, 0), 3);
                DUE.is("9: by none, " + p + ", " + what, x.person(0, -1, 200, p, what), 0);
            }
        }
        int[] none = {0, 0, -1, 63};
        for (int what = 0; what < 4; what++) {
            DUE.is("30: by the telling", x.whole(0, 0, 1), 201);
            DUE.is("30: by none, " + what, x.whole(0, -1, what), none[what]);
        }
        int[] run = {0, 1, 1, 0, 0, 0, -1};
        for (int what = 0; what < 7; what++) {
            DUE.is("11: by the telling", x.run(0, 0, 0), 15);
            DUE.is("11: by none, " + what, x.run(0, -1, what), run[what]);
        }
        DUE.is("35: by the telling, who begins alone", x.worst(0, 0, 0), 0);
        DUE.is("35: all six", x.worst(0, 0, 1), 6);
    }

    /** "UNLIKE of two TELLINGS: the first day, up to 200, on which HOLDERS are not the same"; "NONE: on none". */
    private static void unlike() {
        String still = times("word 0 1;", 11);
        for (int days = 1; days <= 3; days++) {
            // by the first 1 turns on day 198 + days; by the second never
            SaidBack x = Tapes.with("most 1;tie 0 1 " + days + " 1;", still + "deny 99 0;", still);
            DUE.is("29: from day " + (198 + days) + " on", x.unlike(0, 0, 1), days <= 2 ? 198 + days : -1);
            DUE.is("29: from day " + (198 + days) + " on, the other way", x.unlike(0, 1, 0), days <= 2 ? 198 + days : -1);
            DUE.is("29: with itself", x.unlike(0, 0, 0), -1);
            DUE.is("29: with itself, the other", x.unlike(0, 1, 1), -1);
            DUE.is("29: with none", x.unlike(0, 1, -1), 0);
            DUE.is("29: none with none", x.unlike(0, -1, -1), -1);
        }
        SaidBack x = Tapes.with("people 3;last 0 1 2;", "word 0 0;", "word 0 1;", "word 0 0;word 1 2;deny 2 2;");
        DUE.is("29: as many, but others", x.unlike(0, 0, 1), 0);
        DUE.is("29: one day alone", x.unlike(0, 0, 2), 1);
    }

    /** Days 0 .. 200 of person() and holders(). */
    private static void days() {
        SaidBack x = Tapes.with("last 0 1;tie 0 1 1 5;tie 1 0 1 5;", "word 0 0;deny 0 1;");
        for (int day : new int[] {0, 1, 2, 99, 100, 199, 200}) {
            boolean even = day % 2 == 0;
            DUE.is("10: holders on " + day, x.holders(0, 0, day, false), even ? 1 : 2);
            DUE.is("10: deniers on " + day, x.holders(0, 0, day, true), even ? 2 : 1);
            DUE.is("9: has on " + day, x.person(0, 0, day, 0, 0), even ? 1 : 2);
            DUE.is("9: says on " + day, x.person(0, 0, day, 0, 4), even ? 1 : 2);
            DUE.is("9: hears the word on " + day, x.person(0, 0, day, 0, 1), day == 0 ? 9 : even ? 5 : 0);
            DUE.is("9: hears the denial on " + day, x.person(0, 0, day, 0, 2), even ? 0 : 5);
        }
    }

    public static void main(String[] args) {
        fromDayZero();
        nineEach();
        strengthsTogether();
        doubt();
        firstAndOnce();
        last();
        mostAroundZero();
        mostWithin99();
        till();
        both();
        tires();
        onceAlone();
        walls();
        comesLater();
        whoIsNotThere();
        holds();
        lastDay();
        ringDay();
        asMuchToCome();
        ringUpTo200();
        clean();
        peak();
        half();
        upTo200();
        quietAndHealed();
        ever();
        firm();
        wavers();
        held();
        heardFrom();
        chain();
        nothingOfAnotherRun();
        unlike();
        days();
        DUE.end();
    }
}
