/** Promises 9 to 13, 29 to 31 and 38: what a run shows, by runs that one can follow by hand. */
public final class RunTest {
    private static final Due DUE = new Due("RunTest");
    private static final int[] EDGES = {Integer.MIN_VALUE, -3, -2, 999, Integer.MAX_VALUE};

    private static final String CHAIN = "people 4;tie 0 1 1 5;tie 1 2 2 5;tie 2 3 1 5;";
    /** Two who tell one another at once. */
    private static final String SWAP = "people 2;last 0 1;tie 0 1 1 5;tie 1 0 1 5;";
    /** Who has what on days 0, 1, .. . */
    private static void has(String what, String village, String telling, int person, int... due) {
        SaidBack x = Tapes.with(village, telling);
        for (int day = 0; day < due.length; day++) {
            DUE.is("9: " + what + ", day " + day, x.person(0, 0, day, person, 0), due[day]);
        }
    }

    private static void kinds() {
        has("first: the word stays", "first 0;", "word 1 0;deny 2 0;deny 2 0;", 0, 0, 1, 1, 1);
        has("first: the denial stays", "first 0;", "deny 0 0;word 1 0;word 1 0;", 0, 2, 2, 2);
        has("first: the word, if as much", "first 0;", "word 0 0;deny 0 0;", 0, 1, 1);
        has("first: the denial, if more", "first 0;", "word 0 0;deny 0 0;deny 0 0;", 0, 2, 2);
        has("once: as first", "once 0;", "word 0 0;deny 0 0;deny 1 0;", 0, 1, 1);
        has("last", "last 0;", "word 0 0;deny 1 0;word 2 0;deny 3 0;word 3 0;", 0, 1, 2, 1, 1);
        has("last: nothing by as much", "last 0;", "deny 0 0;word 0 0;deny 1 0;", 0, 0, 2);
        has("most", "most 0;", "word 0 0;word 0 0;deny 1 0;deny 2 0;deny 3 0;word 4 0;", 0, 1, 1, 1, 2, 2);
        has("most: nothing at 0", "most 0;", "word 0 0;deny 0 0;word 1 0;", 0, 0, 1);
        has("till", "till 0;", "word 0 0;deny 2 0;word 3 0;", 0, 1, 1, 2, 2);
        has("till: the denial ahead of the word", "till 0;", "word 0 0;word 0 0;deny 0 0;", 0, 2, 2);
        has("both", "both 0;", "word 1 0;deny 3 0;word 4 0;", 0, 0, 1, 1, 3, 3);
        has("both: the denial alone", "both 0;", "deny 0 0;word 2 0;", 0, 2, 2, 3);
        has("both: at once", "both 0;", "deny 0 0;word 0 0;", 0, 3, 3);
        has("doubt: 9 is as much", "doubt 0 9;", "word 0 0;", 0, 1);
        has("doubt: 9 is too little", "doubt 0 10;", "word 0 0;word 1 0;word 2 0;word 2 0;", 0, 0, 0, 1);
        has("doubt: of each alone", "doubt 0 10;last 0;", "word 0 0;deny 0 0;deny 0 0;", 0, 2);
        has("no acts of those who are not there", "people 1;", "word 0 1;word 0 15;", 0, 0, 0);

        SaidBack x = Tapes.with("people 1;most 0;", "word 0 0;word 0 0;deny 0 0;deny 1 0;deny 1 0;word 99 0;");
        int[] sums = {9, -9, -9};
        int[] words = {18, 0, 0};
        int[] denials = {9, 18, 0};
        for (int day = 0; day < 3; day++) {
            DUE.is("9: word heard on " + day, x.person(0, 0, day, 0, 1), words[day]);
            DUE.is("9: denial heard on " + day, x.person(0, 0, day, 0, 2), denials[day]);
            DUE.is("9: sum on " + day, x.person(0, 0, day, 0, 3), sums[day]);
        }
        DUE.is("9: on day 99", x.person(0, 0, 99, 0, 1), 9);
        DUE.is("9: the last day's sum", x.person(0, 0, 200, 0, 3), 0);
        DUE.is("9: at 0 what he had", x.person(0, 0, 200, 0, 0), 2);
        x = Tapes.with("people 1;doubt 0 10;", "word 0 0;deny 0 0;deny 0 0;");
        DUE.is("9: below the doubt is none", x.person(0, 0, 0, 0, 1), 0);
        DUE.is("9: what is not", x.person(0, 0, 0, 0, 2), 18);
        DUE.is("9: no sum of first", x.person(0, 0, 0, 0, 3), 0);
    }

    private static void sumEnds() {
        StringBuilder words = new StringBuilder();
        StringBuilder denials = new StringBuilder();
        for (int i = 0; i < 12; i++) {
            words.append("word 0 0;");
            denials.append("deny 0 0;");
        }
        SaidBack x = Tapes.with("people 1;most 0;", words + "deny 1 0;", denials + "word 1 0;");
        DUE.is("9: 108 heard", x.person(0, 0, 0, 0, 1), 108);
        DUE.is("9: the sum is 99 at most", x.person(0, 0, 0, 0, 3), 99);
        DUE.is("9: and less by one", x.person(0, 0, 1, 0, 3), 90);
        DUE.is("9: the sum is -99 at least", x.person(0, 1, 0, 0, 3), -99);
        DUE.is("9: and more by one", x.person(0, 1, 1, 0, 3), -90);
    }

    private static void says() {
        SaidBack x = Tapes.with("people 3;once 0;both 1;tie 0 1 1 5;tie 1 2 1 5;tires 2 3;", "word 0 0;deny 4 1;");
        int[] once = {1, 0, 0, 0, 0};
        int[] both = {0, 1, 1, 0, 2, 2, 2, 0, 0};
        for (int day = 0; day < once.length; day++) {
            DUE.is("9: once says on " + day, x.person(0, 0, day, 0, 4), once[day]);
        }
        for (int day = 0; day < both.length; day++) {
            DUE.is("9: both says on " + day, x.person(0, 0, day, 1, 4), both[day]);
        }
        DUE.is("9: it comes a day later", x.person(0, 0, 1, 1, 1), 5);
        DUE.is("9: once alone", x.person(0, 0, 2, 1, 1), 0);
        DUE.is("9: tired", x.person(0, 0, 4, 2, 1), 0);
        DUE.is("9: the denial comes", x.person(0, 0, 5, 2, 2), 5);
        DUE.is("9: three days of it", x.person(0, 0, 7, 2, 2), 5);
        DUE.is("9: and no more", x.person(0, 0, 8, 2, 2), 0);

        x = Tapes.with("people 2;once 0;tie 0 1 3 4;tie 0 1 1 4;", "word 5 0;");
        DUE.is("9: by the short tie", x.person(0, 0, 6, 1, 1), 4);
        DUE.is("9: by the long one", x.person(0, 0, 8, 1, 1), 4);
        DUE.is("9: between", x.person(0, 0, 7, 1, 1), 0);
        x = Tapes.with("people 2;once 0;tie 0 1 3 4;slow 3;", "deny 5 0;");
        DUE.is("9: a slow denial", x.person(0, 0, 11, 1, 2), 4);
        DUE.is("9: not ahead of it", x.person(0, 0, 10, 1, 2), 0);
        DUE.is("9: not behind it", x.person(0, 0, 12, 1, 2), 0);

        x = Tapes.with("people 2;both 0;tie 0 1 1 4;tie 0 1 1 3;slow 1;", "word 0 0;deny 1 0;wall 0 2 4;wall 9 0 9;");
        int[] words = {0, 7, 7, 3, 3, 3, 7};
        int[] denials = {0, 0, 0, 7, 3, 3, 3, 7};
        for (int day = 0; day < 7; day++) {
            DUE.is("9: the word past a wall on " + day, x.person(0, 0, day, 1, 1), words[day]);
            DUE.is("9: the denial past a wall on " + day, x.person(0, 0, day, 1, 2), denials[day]);
        }
        DUE.is("9: he says it all the same", x.person(0, 0, 3, 0, 4), 3);
        x = Tapes.with("people 1;tires 2 0;", "word 3 0;");
        DUE.is("9: he says it to nobody", x.person(0, 0, 4, 0, 4), 1);
        DUE.is("9: he tires of it, too", x.person(0, 0, 5, 0, 4), 0);
    }

    private static void wrongPersons() {
        SaidBack x = Tapes.with(CHAIN, "word 0 0;");
        DUE.is("9: without acts", x.person(0, -1, 0, 0, 0), 0);
        DUE.is("9: day 200", x.person(0, 0, 200, 3, 0), 1);
        DUE.is("9: no day 201", x.person(0, 0, 201, 0, 0), -1000);
        DUE.is("9: no day -1", x.person(0, 0, -1, 0, 0), -1000);
        DUE.is("9: no person 4", x.person(0, 0, 0, 4, 0), -1000);
        DUE.is("9: no person -1", x.person(0, 0, 0, -1, 0), -1000);
        DUE.is("9: no telling 1", x.person(0, 1, 0, 0, 0), -1000);
        DUE.is("9: no village 1", x.person(1, 0, 0, 0, 0), -1000);
        DUE.is("9: no village -1", x.person(-1, 0, 0, 0, 0), -1000);
        DUE.is("9: no what 5", x.person(0, 0, 0, 0, 5), -1000);
        DUE.is("9: no what -1", x.person(0, 0, 0, 0, -1), -1000);
        for (int edge : EDGES) {
            DUE.is("9: village " + edge, x.person(edge, 0, 0, 0, 0), -1000);
            DUE.is("9: telling " + edge, x.person(0, edge, 0, 0, 0), -1000);
            DUE.is("9: day " + edge, x.person(0, 0, edge, 0, 0), -1000);
            DUE.is("9: person " + edge, x.person(0, 0, 0, edge, 0), -1000);
            DUE.is("9: what " + edge, x.person(0, 0, 0, 0, edge), -1000);
        }
    }

    private static void holders() {
        SaidBack x = Tapes.with(CHAIN, "word 0 0;");
        int[] due = {1, 3, 3, 7, 15, 15};
        for (int day = 0; day < due.length; day++) {
            DUE.is("10: day " + day, x.holders(0, 0, day, false), due[day]);
            DUE.is("10: deniers, day " + day, x.holders(0, 0, day, true), 0);
            DUE.is("10: without acts, day " + day, x.holders(0, -1, day, false), 0);
        }
        x = Tapes.with("people 3;both 0 1 2;", "word 0 0;word 0 1;deny 1 1;deny 1 2;");
        DUE.is("10: two hold", x.holders(0, 0, 0, false), 3);
        DUE.is("10: who has both doesn't hold", x.holders(0, 0, 1, false), 1);
        DUE.is("10: who has both denies", x.holders(0, 0, 1, true), 6);
        DUE.is("10: day 200", x.holders(0, 0, 200, true), 6);
        for (boolean deny : new boolean[] {false, true}) {
            DUE.is("10: no day 201", x.holders(0, 0, 201, deny), -1);
            DUE.is("10: no day -1", x.holders(0, 0, -1, deny), -1);
            DUE.is("10: no telling 1", x.holders(0, 1, 0, deny), -1);
            DUE.is("10: no village 1", x.holders(1, 0, 0, deny), -1);
            for (int edge : EDGES) {
                DUE.is("10: village " + edge, x.holders(edge, 0, 0, deny), -1);
                DUE.is("10: telling " + edge, x.holders(0, edge, 0, deny), -1);
                DUE.is("10: day " + edge, x.holders(0, 0, edge, deny), -1);
            }
        }
    }

    private static void run(String what, String village, String telling, int... due) {
        SaidBack x = Tapes.with(village, telling);
        for (int i = 0; i < due.length; i++) {
            DUE.is("11: " + what + ", " + i, x.run(0, 0, i), due[i]);
        }
    }

    private static void runs() {
        run("a chain", CHAIN, "word 0 0;", 4, 1, 0, 0, 4, 4, 1);
        run("nothing told", CHAIN, "", 0, 1, 1, 0, 0, 0, -1);
        run("a swap", SWAP, "word 0 0;deny 0 1;", 0, 2, 0, 0, 0, 1, 0);
        run("a swap, later", SWAP, "word 3 0;deny 3 1;", 3, 2, 0, 3, 3, 1, 3);
        // he says the word on days 0 and 1; a wall's end is a day of its acts
        run("one who tires", "people 1;tires 2 0;", "word 0 0;", 1, 1, 0, 0, 0, 1, 0);
        run("once counts", "people 1;once 0;", "word 0 0;", 0, 1, 0, 0, 0, 1, 0);
        run("a wall's end", "people 1;", "word 0 0;wall 3 1 7;", 7, 1, 0, 7, 0, 1, 0);
        run("an act of nobody", "people 1;", "deny 50 0;deny 60 15;", 60, 1, 1, 60, 0, 0, -1);
        run("clean by a denial", "people 1;last 0;", "word 0 0;deny 9 0;", 9, 1, 1, 9, 0, 1, 0);
        run("both are no holders", "people 1;both 0;", "word 0 0;deny 0 0;", 0, 1, 1, 0, 0, 0, -1);
        // half of three is two
        run("half of three", "people 3;", "word 2 0;word 5 1;", 5, 1, 0, 5, 5, 2, 5);
        // a sum that grows by one a day from day 101 on, and stands from day 199 on
        run("a slow sum", "people 2;most 1;tie 0 1 1 1;", "word 0 0;wall 0 0 99;", 199, 1, 0, 99, 101, 2, 0);
        run("too slow a sum", "people 2;most 1;tie 0 1 3 1;", "word 0 0;wall 0 0 99;", -1, -1, 0, 99, 103, 2, 0);
        // what is still to come counts: it comes on day 3
        run("on the way", "people 2;once 0;tie 0 1 3 1;doubt 1 2;", "word 0 0;", 3, 1, 0, 0, 0, 1, 0);
        run("a slow denial on the way", "people 2;once 0;tie 0 1 3 1;slow 3;", "deny 0 0;", 6, 1, 1, 0, 0, 0, -1);
        // at the end of a wall nothing is on the way; what is said on the next day is, for six days, for three
        run("six days ahead", "people 2;tie 0 1 3 1;slow 3;", "deny 0 0;wall 0 0 5;", 12, 1, 1, 5, 0, 0, -1);
        run("three days ahead", "people 2;tie 0 1 3 1;", "word 0 0;wall 0 0 5;", 9, 1, 0, 5, 9, 2, 0);
        run("a day ahead", "people 2;tie 0 1 1 1;", "word 0 0;wall 0 0 5;", 7, 1, 0, 5, 7, 2, 0);
        // by other ties as much comes to the same one: rows of two who have what the other has had
        run("a denial goes round", "people 3;last 0 1 2;tie 0 1 1 1;tie 1 2 1 1;tie 2 0 1 1;",
            "deny 0 0;word 0 1;deny 0 2;", 0, 3, 0, 0, 0, 1, -1);
    }

    /** Rings of 4, 5 and 7 in one village: after 140 days all is as it was. */
    private static void longRing() {
        StringBuilder b = new StringBuilder("people 16;last 0 1 2 3 4 5 6 7 8 9 10 11 12 13 14 15;");
        StringBuilder acts = new StringBuilder();
        int[] sizes = {4, 5, 7};
        int first = 0;
        for (int size : sizes) {
            for (int i = 0; i < size; i++) {
                b.append("tie ").append(first + i).append(' ').append(first + (i + 1) % size).append(" 1 1;");
                acts.append(i == 0 ? "word 0 " : "deny 0 ").append(first + i).append(';');
            }
            first += size;
        }
        run("a long ring", b.toString(), acts.toString(), 0, 140, 0, 0, 0, 3, -1);
        run("a long ring from day 60", b.toString(), acts + "wall 39 60 60;", 60, 140, 0, 60, 0, 3, -1);
        run("none from day 61 on", b.toString(), acts + "wall 39 61 61;", -1, -1, 0, 61, 0, 3, -1);
        SaidBack x = Tapes.with(b.toString(), acts.toString());
        DUE.is("10: who holds on day 139", x.holders(0, 0, 139, false), 1 << 3 | 1 << 8 | 1 << 15);
        DUE.is("10: who holds on day 140", x.holders(0, 0, 140, false), 1 | 1 << 4 | 1 << 9);
    }

    /** Each call lives the run from day 0 on by itself. */
    private static void firstCalls() {
        String word = "word 0 0;deny 0 0;";
        DUE.is("9: the first call", Tapes.with(CHAIN, word).person(0, 0, 1, 1, 0), 1);
        DUE.is("10: the first call", Tapes.with(CHAIN, word).holders(0, 0, 1, false), 3);
        DUE.is("11: the first call", Tapes.with(CHAIN, word).run(0, 0, 0), 4);
        DUE.is("12: the first call", Tapes.with(CHAIN, word).held(0, 0, 0, 5), 6);
        DUE.is("13: the first call", Tapes.with(CHAIN, word).heard(0, 0, 0, true, false), 0);
        DUE.is("13: the first call, from", Tapes.with(CHAIN, word).heard(0, 0, 1, false, true), 0);
        DUE.is("30: the first call", Tapes.with(CHAIN, word).whole(0, 0, 0), 15);
        DUE.is("31: the first call", Tapes.with(CHAIN, word).wavers(0, 0, 0), 1);
        DUE.is("38: the first call", Tapes.with(CHAIN, word).chain(0, 0, 1, 0), 0);
        DUE.is("29: the first call", Tapes.with(CHAIN, word).unlike(0, 0, -1), 0);
        DUE.is("18: the first call", Tapes.with(CHAIN, word).matters(0, 0, 0), 3);
    }

    /** 1's sum is -99, and grows from day 101 on by one a day: on day 200 it is 1. */
    private static void theLastDay() {
        StringBuilder acts = new StringBuilder("word 99 0;");
        for (int i = 0; i < 11; i++) {
            acts.append("deny 0 1;");
        }
        SaidBack x = Tapes.with("people 4;most 1;tie 0 1 2 1;tie 1 2 1 1;", acts.toString(), acts + "wall 0 99 99;");
        int[] run = {-1, -1, 0, 99, 200, 2, 200};
        for (int what = 0; what < 7; what++) {
            DUE.is("11: on day 200, " + what, x.run(0, 0, what), run[what]);
        }
        DUE.is("9: on day 200, his sum", x.person(0, 0, 200, 1, 3), 1);
        DUE.is("9: on day 199, his sum", x.person(0, 0, 199, 1, 3), 0);
        DUE.is("10: on day 200", x.holders(0, 0, 200, false), 3);
        DUE.is("12: on day 200", x.held(0, 0, 1, 200), 1);
        DUE.is("12: on day 199", x.held(0, 0, 1, 199), 0);
        DUE.is("29: on day 200", x.unlike(0, 0, 1), 200);
        DUE.is("30: ever, on day 200", x.whole(0, 0, 0), 3);
        DUE.is("30: quiet, on day 200", x.whole(0, 0, 1), 201);
        DUE.is("30: healed, on day 200", x.whole(0, 0, 2), 200);
        DUE.is("30: firm, on day 200", x.whole(0, 0, 3), 15);
        DUE.is("31: on day 200", x.wavers(0, 0, 1), 2);
        DUE.is("34: on day 200", x.shield(0, 0, 1, 1), 1);
        DUE.is("34: no later", x.shield(0, 0, 2, 1), 0);
        DUE.is("36: on day 200", x.deaf(0, 0, 1), 2);
        DUE.is("18: on day 200", x.matters(0, 0, 0), 1);
    }

    private static void wrongRuns() {
        SaidBack x = Tapes.with(CHAIN, "word 0 0;");
        int[] none = {0, 1, 1, 0, 0, 0, -1};
        for (int what = 0; what < 7; what++) {
            DUE.is("11: without acts " + what, x.run(0, -1, what), none[what]);
            DUE.is("11: no telling 1", x.run(0, 1, what), -2);
            DUE.is("11: no village 1", x.run(1, 0, what), -2);
            DUE.is("11: no village -1", x.run(-1, 0, what), -2);
        }
        DUE.is("11: no what 7", x.run(0, 0, 7), -2);
        DUE.is("11: no what -1", x.run(0, 0, -1), -2);
        for (int edge : EDGES) {
            DUE.is("11: village " + edge, x.run(edge, 0, 0), -2);
            DUE.is("11: telling " + edge, x.run(0, edge, 0), -2);
            DUE.is("11: what " + edge, x.run(0, 0, edge), -2);
        }
    }

    private static void held() {
        SaidBack x = Tapes.with("people 2;last 0;both 1;", "word 2 0;deny 5 0;word 7 0;word 1 1;deny 4 1;");
        int[] due = {0, 0, 1, 2, 3, 3, 3, 4, 5};
        for (int n = 0; n < due.length; n++) {
            DUE.is("12: days to " + n, x.held(0, 0, 0, n), due[n]);
        }
        DUE.is("12: 200", x.held(0, 0, 0, 200), 3 + 194);
        DUE.is("12: not of both", x.held(0, 0, 1, 200), 3);
        DUE.is("12: without acts", x.held(0, -1, 1, 200), 0);
        DUE.is("12: no n 201", x.held(0, 0, 0, 201), -1);
        DUE.is("12: no n -1", x.held(0, 0, 0, -1), -1);
        DUE.is("12: no person 2", x.held(0, 0, 2, 5), -1);
        DUE.is("12: no telling 1", x.held(0, 1, 0, 5), -1);
        DUE.is("12: no village 1", x.held(1, 0, 0, 5), -1);
        for (int edge : EDGES) {
            DUE.is("12: village " + edge, x.held(edge, 0, 0, 0), -1);
            DUE.is("12: telling " + edge, x.held(0, edge, 0, 0), -1);
            DUE.is("12: person " + edge, x.held(0, 0, edge, 0), -1);
            DUE.is("12: n " + edge, x.held(0, 0, 0, edge), -1);
        }
    }

    private static void heard() {
        // 3 hears of 2 and 1 at once, 0 of 3; 4 hears nothing; 1's doubt is too great for him
        String village = "people 5;doubt 3 99;tie 2 3 1 1;tie 1 3 1 1;tie 0 3 2 1;tie 1 4 3 2;tie 3 0 1 1;";
        SaidBack x = Tapes.with(village, "word 2 2;word 2 1;word 3 3;word 9 0;word 5 0;deny 6 4;");
        int[] days = {5, 2, 2, 3, 5};
        int[] from = {-1, -1, -1, 1, 1};
        for (int p = 0; p < 5; p++) {
            DUE.is("13: day of " + p, x.heard(0, 0, p, false, false), days[p]);
            DUE.is("13: from whom " + p, x.heard(0, 0, p, false, true), from[p]);
        }
        DUE.is("13: the denial", x.heard(0, 0, 4, true, false), 6);
        DUE.is("13: the denial from", x.heard(0, 0, 4, true, true), -1);
        DUE.is("13: no denial", x.heard(0, 0, 3, true, false), -2);
        DUE.is("13: no denial from", x.heard(0, 0, 3, true, true), -2);
        DUE.is("13: nothing without acts", x.heard(0, -1, 3, false, false), -2);
        x = Tapes.with("people 3;both 0 1;tie 1 2 2 1;tie 0 2 2 1;slow 3;", "deny 99 1;deny 99 0;word 99 0;word 98 1;");
        DUE.is("13: a slow denial", x.heard(0, 0, 2, true, false), 104);
        DUE.is("13: the least one", x.heard(0, 0, 2, true, true), 0);
        DUE.is("13: the word", x.heard(0, 0, 2, false, false), 100);
        DUE.is("13: whose tie brings it then", x.heard(0, 0, 2, false, true), 1);
        for (int i = 0; i < 4; i++) {
            boolean deny = i % 2 == 1;
            boolean who = i > 1;
            DUE.is("13: no person 3", x.heard(0, 0, 3, deny, who), -2);
            DUE.is("13: no telling 1", x.heard(0, 1, 0, deny, who), -2);
            DUE.is("13: no village 1", x.heard(1, 0, 0, deny, who), -2);
            for (int edge : EDGES) {
                DUE.is("13: village " + edge, x.heard(edge, 0, 0, deny, who), -2);
                DUE.is("13: telling " + edge, x.heard(0, edge, 0, deny, who), -2);
                DUE.is("13: person " + edge, x.heard(0, 0, edge, deny, who), -2);
            }
        }
    }

    private static void unlike() {
        SaidBack x = Tapes.with("people 2;last 0 1;", "word 3 0;deny 7 0;", "word 3 0;deny 8 0;", "word 3 0;deny 7 0;deny 1 1;");
        DUE.is("29: from the denial on", x.unlike(0, 0, 1), 7);
        DUE.is("29: the other way round", x.unlike(0, 1, 0), 7);
        DUE.is("29: deniers alone differ", x.unlike(0, 0, 2), -1);
        DUE.is("29: with itself", x.unlike(0, 1, 1), -1);
        DUE.is("29: without acts", x.unlike(0, 0, -1), 3);
        DUE.is("29: without acts, the first", x.unlike(0, -1, 0), 3);
        DUE.is("29: both without", x.unlike(0, -1, -1), -1);
        for (int edge : EDGES) {
            DUE.is("29: village " + edge, x.unlike(edge, 0, 1), -1);
            DUE.is("29: one " + edge, x.unlike(0, edge, 1), -1);
            DUE.is("29: other " + edge, x.unlike(0, 0, edge), -1);
        }
        DUE.is("29: no village 1", x.unlike(1, 0, 1), -1);
        DUE.is("29: no telling 3", x.unlike(0, 3, 0), -1);
        DUE.is("29: no other telling 3", x.unlike(0, 0, 3), -1);
        DUE.is("29: no village -1", x.unlike(-1, 0, 1), -1);
        x = Tapes.with("people 2;tie 0 1 3 1;", "word 99 0;wall 0 0 99;", "word 99 0;wall 0 0 98;");
        DUE.is("29: beyond the last day", x.unlike(0, 0, 1), 102);
    }

    private static void whole(String what, String village, String telling, int... due) {
        SaidBack x = Tapes.with(village, telling);
        for (int i = 0; i < due.length; i++) {
            DUE.is("30: " + what + ", " + i, x.whole(0, 0, i), due[i]);
        }
    }

    private static void wholes() {
        whole("a chain", CHAIN, "word 0 0;", 15, 201, 200, 15);
        whole("nothing", CHAIN, "", 0, 0, -1, 15);
        whole("a swap", SWAP, "word 0 0;deny 0 1;", 3, 201, 200, 0);
        whole("tired ones hold", CHAIN + "tires 1 0;", "word 0 0;", 15, 5, 200, 15);
        whole("once", "people 1;once 0;", "word 7 0;", 1, 8, 200, 1);
        // peak on day 2: 0 wavers ahead of it, 1 behind it
        whole("firm ones", "people 4;last 0 1;both 2;", "word 0 0;deny 1 0;word 2 0;word 2 1;word 2 2;deny 5 1;deny 6 2;",
            7, 201, 200, 9);
        whole("healed", "people 2;last 0;both 1;", "word 0 0;deny 4 0;word 1 1;deny 9 1;", 3, 201, 8, 0);
        whole("denied, and quiet", "people 1;last 0;", "word 2 0;deny 4 0;", 1, 4, 3, 0);
        whole("in a ring", "people 3;last 0 1 2;tie 0 1 1 1;tie 1 2 1 1;tie 2 0 1 1;",
            "deny 0 0;word 0 1;deny 0 2;", 7, 201, 200, 0);
        SaidBack x = Tapes.with(CHAIN, "word 0 0;");
        for (int what = 0; what < 4; what++) {
            DUE.is("30: no telling 1", x.whole(0, 1, what), -2);
            DUE.is("30: no village 1", x.whole(1, 0, what), -2);
        }
        DUE.is("30: no what 4", x.whole(0, 0, 4), -2);
        DUE.is("30: no what -1", x.whole(0, 0, -1), -2);
        for (int edge : EDGES) {
            DUE.is("30: village " + edge, x.whole(edge, 0, 0), -2);
            DUE.is("30: telling " + edge, x.whole(0, edge, 0), -2);
            DUE.is("30: what " + edge, x.whole(0, 0, edge), -2);
        }
    }

    private static void wavers() {
        SaidBack x = Tapes.with(SWAP + "people 3;both 2;", "word 0 0;deny 0 1;word 3 2;deny 9 2;");
        DUE.is("31: each day", x.wavers(0, 0, 0), 201);
        DUE.is("31: each day, the other", x.wavers(0, 0, 1), 201);
        DUE.is("31: both, one behind the other", x.wavers(0, 0, 2), 2);
        DUE.is("31: never", x.wavers(0, -1, 0), 0);
        DUE.is("31: no person 3", x.wavers(0, 0, 3), -1);
        DUE.is("31: no telling 1", x.wavers(0, 1, 0), -1);
        DUE.is("31: no village 1", x.wavers(1, 0, 0), -1);
        for (int edge : EDGES) {
            DUE.is("31: village " + edge, x.wavers(edge, 0, 0), -1);
            DUE.is("31: telling " + edge, x.wavers(0, edge, 0), -1);
            DUE.is("31: person " + edge, x.wavers(0, 0, edge), -1);
        }
    }

    private static void chain() {
        SaidBack x = Tapes.with(CHAIN + "tie 3 0 1 9;", "word 0 0;", "word 0 2;deny 0 0;");
        for (int p = 0; p < 4; p++) {
            DUE.is("38: of " + p, x.chain(0, 0, p, -1), p);
            for (int k = 0; k < p; k++) {
                DUE.is("38: of " + p + ", " + k, x.chain(0, 0, p, k), p - 1 - k);
            }
            DUE.is("38: of " + p + ", no more", x.chain(0, 0, p, p), -2);
        }
        DUE.is("38: by another one", x.chain(0, 1, 0, -1), 2);
        DUE.is("38: by another one, 0", x.chain(0, 1, 0, 0), 3);
        DUE.is("38: by another one, 1", x.chain(0, 1, 0, 1), 2);
        DUE.is("38: 0 says the denial", x.chain(0, 1, 1, -1), 0);
        DUE.is("38: without acts", x.chain(0, -1, 1, -1), 0);
        DUE.is("38: without acts, none", x.chain(0, -1, 1, 0), -2);
        DUE.is("38: no person 4", x.chain(0, 0, 4, -1), -2);
        DUE.is("38: no telling 2", x.chain(0, 2, 0, -1), -2);
        DUE.is("38: no village 1", x.chain(1, 0, 0, -1), -2);
        for (int edge : EDGES) {
            DUE.is("38: village " + edge, x.chain(edge, 0, 3, -1), -2);
            DUE.is("38: telling " + edge, x.chain(0, edge, 3, -1), -2);
            DUE.is("38: person " + edge, x.chain(0, 0, edge, -1), -2);
            DUE.is("38: k " + edge, x.chain(0, 0, 3, edge), -2);
        }
    }

    public static void main(String[] args) {
        kinds();
        sumEnds();
        says();
        wrongPersons();
        holders();
        runs();
        longRing();
        theLastDay();
        firstCalls();
        wrongRuns();
        held();
        heard();
        unlike();
        wholes();
        wavers();
        chain();
        DUE.end();
    }
}
