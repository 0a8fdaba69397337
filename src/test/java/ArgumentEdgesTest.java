/**
 * "there is none such (of any)", "another day", "another n", "another what" of promises 9 to 38: each argument at both ends of
 * what it may be, just inside and just outside them, and far outside. What is asked of answers otherwise than by none.
 */
public final class ArgumentEdgesTest {
    private static final Due DUE = new Due("ArgumentEdgesTest");
    /** Ends that depend on what is told. */
    private static final int VILLAGES = 1001;
    private static final int TELLINGS = 1002;
    private static final int PEOPLE = 1003;
    private static final int SETS = 1004;
    private static final int TIES = 1005;

    private static final int[] VILLAGE = {0, VILLAGES};
    private static final int[] TELLING = {-1, TELLINGS};
    private static final int[] PERSON = {0, PEOPLE};
    private static final int[] DAY_200 = {0, 200};
    private static final int[] DAY_99 = {0, 99};

    private interface Ask {
        long of(int[] a);
    }

    private static SaidBack x;
    private static int villages;
    private static int tellings;
    private static int[] people;
    private static String named;

    private static String ring(int n) {
        StringBuilder b = new StringBuilder("people ").append(n).append(";till");
        for (int p = 0; p < n; p++) {
            b.append(' ').append(p);
        }
        b.append(';');
        for (int p = 0; p < n; p++) {
            b.append("tie ").append(p).append(' ').append((p + 1) % n).append(" 1 5;");
        }
        return b.toString();
    }

    /** Nobody ever holds by these, all are clean. */
    private static void tell(int manyTellings, int... manyPeople) {
        x = new SaidBack();
        Tapes.muddle(x);
        people = manyPeople;
        villages = manyPeople.length;
        tellings = manyTellings;
        String[] told = {"deny 0 0;", "", "deny 5 1;"};
        named = villages + " villages, " + tellings + " tellings: ";
        for (int n : manyPeople) {
            Tapes.tell(x, Tapes.VILLAGE, n == 1 ? "" + "people 1;" : ring(n));
        }
        for (int t = 0; t < tellings; t++) {
            Tapes.tell(x, Tapes.TELLING, told[t]);
        }
    }

    private static int most(int end, int village) {
        switch (end) {
            case VILLAGES: return villages - 1;
            case TELLINGS: return tellings - 1;
            case PEOPLE: return people[village] - 1;
            case SETS: return (1 << people[village]) - 1;
            case TIES: return people[village] == 1 ? -1 : people[village] - 1;
            default: return end;
        }
    }

    private static String call(String what, int[] a) {
        StringBuilder b = new StringBuilder(named).append(what);
        for (int i = 0; i < a.length; i++) {
            b.append(i == 0 ? "(" : ", ").append(a[i]);
        }
        return b.append(')').toString();
    }

    /** Changes each argument by itself; the first one is the village. */
    private static void edges(String what, long none, Ask ask, int[] base, int[]... may) {
        for (int village = 0; village < villages; village++) {
            int[] a = base.clone();
            a[0] = village;
            for (int i = 0; i < a.length; i++) {
                int kept = a[i];
                int least = may[i][0];
                int most = most(may[i][1], village);
                for (int n : new int[] {least, least + 1, most - 1, most}) {
                    a[i] = n;
                    if (n >= least && n <= most) {
                        DUE.is(call(what, a) + " is none", ask.of(a) == none, false);
                    }
                }
                for (int n : new int[] {least - 1, most + 1, Integer.MIN_VALUE, Integer.MAX_VALUE}) {
                    a[i] = n;
                    if (n < least || n > most) {
                        DUE.is(call(what, a), ask.of(a), none);
                    }
                }
                a[i] = kept;
            }
        }
        int[] a = base.clone();
        a[0] = villages;
        DUE.is(call(what, a), ask.of(a), none);
        a[0] = -1;
        DUE.is(call(what, a), ask.of(a), none);
    }

    private static void runs() {
        int[] none = {0, -1, 0, 0, 0};
        edges("9: person", -1000, a -> x.person(a[0], a[1], a[2], a[3], a[4]), none,
            VILLAGE, TELLING, DAY_200, PERSON, new int[] {0, 4});
        for (boolean flag : new boolean[] {false, true}) {
            edges("10: holders " + flag, -1, a -> x.holders(a[0], a[1], a[2], flag), new int[] {0, -1, 0},
                VILLAGE, TELLING, DAY_200);
        }
        edges("11: run", -2, a -> x.run(a[0], a[1], a[2]), new int[] {0, -1, 0}, VILLAGE, TELLING, new int[] {0, 6});
        edges("12: held", -1, a -> x.held(a[0], a[1], a[2], a[3]), new int[] {0, -1, 0, 0}, VILLAGE, TELLING, PERSON, DAY_200);
        edges("30: whole", -2, a -> x.whole(a[0], a[1], a[2]), new int[] {0, -1, 0}, VILLAGE, TELLING, new int[] {0, 3});
        edges("31: wavers", -1, a -> x.wavers(a[0], a[1], a[2]), new int[] {0, -1, 0}, VILLAGE, TELLING, PERSON);
        // nobody hears the word: k 0 is none
        edges("38: chain", -2, a -> x.chain(a[0], a[1], a[2], a[3]), new int[] {0, -1, 0, -1},
            VILLAGE, TELLING, PERSON, new int[] {-1, -1});
    }

    private static void cures() {
        int[] base = {0, -1, 0, 0};
        int[] two = {0, 2};
        edges("14: cure", -1, a -> x.cure(a[0], a[1], a[2], a[3]), base, VILLAGE, TELLING, DAY_99, new int[] {0, 3});
        edges("15: late", -1, a -> x.late(a[0], a[1], a[2]), new int[] {0, -1, 0}, VILLAGE, TELLING, two);
        edges("27: barred", -1, a -> x.barred(a[0], a[1], a[2], a[3]), base, VILLAGE, TELLING, DAY_99, two);
        edges("32: often", -1, a -> x.often(a[0], a[1], a[2], a[3]), base, VILLAGE, TELLING, new int[] {0, 90}, PERSON);
        edges("33: cures", -1, a -> x.cures(a[0], a[1], a[2], a[3]), base, VILLAGE, TELLING, DAY_99, two);
        edges("34: shield", -1, a -> x.shield(a[0], a[1], a[2], a[3]), base, VILLAGE, TELLING, PERSON, two);
        edges("36: deaf", -1, a -> x.deaf(a[0], a[1], a[2]), new int[] {0, -1, 0}, VILLAGE, TELLING, PERSON);
    }

    private static void begins() {
        // on day 0 the one to whom the word is told holds, by a set of one alone
        edges("16: begun", -2, a -> x.begun(a[0], a[1], a[2], a[3], a[4]), new int[] {0, -1, 0, 1, -1},
            VILLAGE, TELLING, DAY_99, new int[] {0, SETS}, new int[] {-1, 0});
        for (boolean flag : new boolean[] {false, true}) {
            edges("17: origin " + flag, -1, a -> x.origin(a[0], a[1], a[2], a[3], flag), new int[] {0, -1, 0, 1},
                VILLAGE, TELLING, DAY_99, new int[] {0, SETS});
        }
        edges("18: matters", -1000, a -> x.matters(a[0], a[1], a[2]), new int[] {0, -1, 0}, VILLAGE, TELLING, PERSON);
        edges("19: key", -1, a -> x.key(a[0], a[1], false), new int[] {0, -1}, VILLAGE, TELLING);
        edges("35: worst", -1, a -> x.worst(a[0], a[1], a[2]), new int[] {0, -1, 0}, VILLAGE, TELLING, new int[] {0, 3});
        for (boolean flag : new boolean[] {false, true}) {
            edges("37: turn " + flag, -1, a -> x.turn(a[0], a[1], a[2], flag), new int[] {0, -1, 0},
                VILLAGE, TELLING, new int[] {0, 5});
        }
    }

    private static void draws() {
        int[] seeds = {Integer.MIN_VALUE, Integer.MAX_VALUE};
        edges("25: drawn", -1, a -> x.drawn(a[0], a[1], a[2], a[3], a[4]), new int[] {0, -1, 0, 0, 0},
            VILLAGE, TELLING, seeds, DAY_200, new int[] {0, 1});
        edges("25: drawn clean", -1, a -> x.drawn(a[0], a[1], a[2], a[3], a[4]), new int[] {0, -1, 0, 0, 1},
            VILLAGE, TELLING, seeds, DAY_200, new int[] {0, 1});
        for (boolean flag : new boolean[] {false, true}) {
            edges("26: worlds " + flag, -1, a -> x.worlds(a[0], a[1], a[2], a[3], a[4], flag), new int[] {0, -1, 0, 1, 0},
                VILLAGE, TELLING, seeds, new int[] {1, 20}, DAY_200);
        }
    }

    private static void ways() {
        edges("23: reach", -1, a -> x.reach(a[0], a[1], a[2]), new int[] {0, 0, 0}, VILLAGE, PERSON, new int[] {0, 2});
        edges("7: tie", -1, a -> x.tie(a[0], a[1], a[2]), new int[] {0, 0, 0}, VILLAGE, new int[] {0, TIES}, new int[] {0, 3});
        edges("24: loud", -1, a -> x.loud(a[0]), new int[] {0}, VILLAGE);
        for (boolean flag : new boolean[] {false, true}) {
            edges("19: sever", -1, a -> x.key(a[0], a[1], true), new int[] {0, -1}, VILLAGE, TELLING);
            edges("28: join " + flag, -1, a -> x.join(a[0], a[1], flag), new int[] {0, -1}, VILLAGE, TELLING);
            // both must be others: to one from the other ones
            for (int village = 0; village < villages; village++) {
                int last = people[village] - 1;
                for (int p : new int[] {Integer.MIN_VALUE, -2, -1, 0, 1, last - 1, last, last + 1, 16, Integer.MAX_VALUE}) {
                    int[] a = {village, p, last};
                    boolean there = p >= 0 && p < last;
                    DUE.is(call("20: apart", a) + " is none", x.apart(a[0], a[1], a[2]) == -1, !there);
                    DUE.is(call("21: cut", a) + " is none", x.cut(a[0], a[1], a[2]) == -1L, !there);
                    DUE.is(call("22: soon", a) + " is none", x.soon(a[0], a[1], a[2], flag) == -1, !there);
                    a = new int[] {village, last, p};
                    DUE.is(call("20: apart", a) + " is none", x.apart(a[0], a[1], a[2]) == -1, !there);
                    DUE.is(call("21: cut", a) + " is none", x.cut(a[0], a[1], a[2]) == -1L, !there);
                    DUE.is(call("22: soon", a) + " is none", x.soon(a[0], a[1], a[2], flag) == -1, !there);
                }
            }
            for (int village : new int[] {Integer.MIN_VALUE, -2, -1, villages, villages + 1, Integer.MAX_VALUE}) {
                DUE.is(named + "20: village " + village, x.apart(village, 0, 1), -1);
                DUE.is(named + "21: village " + village, x.cut(village, 0, 1), -1);
                DUE.is(named + "22: village " + village, x.soon(village, 0, 1, flag), -1);
            }
        }
    }

    /** HEARD and UNLIKE answer as by none, too, when there is nothing to hear, nothing unlike. */
    private static void heardAndUnlike() {
        String both = "people 3;both 0 1 2;tie 0 1 1 5;tie 1 2 1 5;";
        x = Tapes.with(both, "word 0 0;deny 0 0;", "word 1 0;deny 1 0;", "word 2 0;deny 2 0;");
        Tapes.tell(x, Tapes.VILLAGE, both);
        villages = 2;
        tellings = 3;
        people = new int[] {3, 3};
        named = "both: ";
        for (int i = 0; i < 4; i++) {
            boolean deny = i % 2 == 1;
            boolean from = i > 1;
            edges("13: heard " + deny + from, -2, a -> x.heard(a[0], a[1], a[2], deny, from), new int[] {0, 0, 0},
                VILLAGE, new int[] {0, 2}, PERSON);
        }
        for (int other = 0; other < 3; other++) {
            int[] may = {-1, TELLINGS};
            int fixed = other;
            x = Tapes.with("people 4;", "word 0 0;", "word 0 1;", "word 0 2;");
            Tapes.tell(x, Tapes.VILLAGE, "people 4;");
            for (int one : new int[] {Integer.MIN_VALUE, -2, -1, 0, 1, 2, 3, 4, Integer.MAX_VALUE}) {
                boolean there = one >= may[0] && one <= 2;
                int due = there && one != fixed ? 0 : -1;
                DUE.is("29: " + one + " and " + fixed, x.unlike(0, one, fixed), due);
                DUE.is("29: " + fixed + " and " + one, x.unlike(1, fixed, one), due);
            }
            for (int village : new int[] {Integer.MIN_VALUE, -2, -1, 2, 3, Integer.MAX_VALUE}) {
                DUE.is("29: village " + village, x.unlike(village, fixed, -1), -1);
            }
        }
        x = Tapes.with("people 4;", "word 0 0;");
        DUE.is("29: one village", x.unlike(1, 0, -1), -1);
        DUE.is("29: one telling", x.unlike(0, 0, 1), -1);
        DUE.is("29: one telling, the first", x.unlike(0, 1, 0), -1);
    }

    /** Without a village there is nothing to ask of; without a telling there is NONE to ask by. */
    private static void all() {
        runs();
        cures();
        begins();
        draws();
    }

    public static void main(String[] args) {
        tell(3, 3, 16);
        all();
        ways();
        tell(1, 3);
        all();
        ways();
        tell(2, 16, 2);
        all();
        ways();
        tell(0, 15);
        all();
        ways();
        tell(3, 1, 1);
        all();
        tell(3);
        all();
        ways();
        tell(0);
        all();
        ways();
        heardAndUnlike();
        DUE.end();
    }
}
