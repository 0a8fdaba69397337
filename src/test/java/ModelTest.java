import java.util.ArrayList;
import java.util.List;

/** Villages and tellings by a fixed seed: every answer of a run, a what-if, a way is the plain model's. */
public final class ModelTest {
    private static final Due DUE = new Due("ModelTest");
    private static final String[] KINDS = {"first", "last", "most", "till", "both", "once"};
    private static final String[] ACTS = {"word", "deny", "wall"};
    private static long random = 20261119L;

    private static int below(int n) {
        random = random * 6364136223846793005L + 1442695040888963407L;
        return (int) ((random >>> 33) % n);
    }

    private static boolean chance(int percent) {
        return below(100) < percent;
    }

    /** Those of whom a denial takes the word, in a round: it goes about, and can be healed. */
    private static Model.Village round(int people) {
        Model.Village v = new Model.Village();
        v.people = people;
        int half = chance(50) ? people : 1 + below(people);
        int longest = chance(70) ? 1 : 3;
        for (int p = 0; p < people; p++) {
            v.kind[p] = chance(10) ? below(6) : chance(80) ? 1 : 2 + below(3);
            int next = p < half ? (p + 1) % half : half + (p + 1 - half) % (people - half);
            if (next != p) {
                v.ties.add(new int[] {p, next, 1 + below(longest), 1 + below(9)});
            }
        }
        for (int t = below(4); t > 0 && people > 1; t--) {
            int from = below(people);
            v.ties.add(new int[] {from, (from + 1 + below(people - 1)) % people, 1 + below(longest), 1 + below(9)});
        }
        v.slow = chance(70) ? 0 : below(4);
        v.wordTires = chance(80) ? 0 : below(8);
        v.denialTires = chance(80) ? 0 : below(8);
        return v;
    }

    private static Model.Village village(int people, int ties) {
        Model.Village v = new Model.Village();
        v.people = people;
        int favourite = below(6);
        int strange = below(3) * 40;
        for (int p = 0; p < people; p++) {
            v.kind[p] = chance(strange) ? below(6) : favourite;
            v.doubt[p] = chance(60) ? 1 : 1 + below(chance(80) ? 12 : 99);
        }
        int longest = 1 + below(3);
        for (int t = 0; t < ties && people > 1; t++) {
            int from = chance(50) ? t % people : below(people);
            int to = chance(50) ? (from + 1) % people : below(people);
            if (to == from) {
                to = (from + 1) % people;
            }
            v.ties.add(new int[] {from, to, 1 + below(longest), 1 + below(9)});
        }
        v.slow = chance(50) ? 0 : below(4);
        v.wordTires = chance(50) ? 0 : below(chance(70) ? 5 : 31);
        v.denialTires = chance(50) ? 0 : below(chance(70) ? 5 : 31);
        return v;
    }

    private static String text(Model.Village v) {
        StringBuilder b = new StringBuilder();
        b.append("people ").append(v.people).append(';');
        for (int kind = 1; kind < 6; kind++) {
            String names = "";
            for (int p = 0; p < v.people; p++) {
                names += v.kind[p] == kind ? " " + p : "";
            }
            b.append(names.isEmpty() ? "" : KINDS[kind] + names + ";");
        }
        for (int p = 0; p < v.people; p++) {
            if (v.doubt[p] != 1) {
                b.append("doubt ").append(p).append(' ').append(v.doubt[p]).append(';');
            }
        }
        for (int[] tie : v.ties) {
            b.append("tie");
            for (int number : tie) {
                b.append(' ').append(number);
            }
            b.append(';');
        }
        b.append("slow ").append(v.slow).append(";tires ").append(v.wordTires).append(' ').append(v.denialTires);
        return b.append(';').toString();
    }

    private static List<int[]> telling(Model.Village v, int many) {
        List<int[]> acts = new ArrayList<>();
        int days = chance(70) ? 12 : chance(70) ? 40 : 100;
        for (int i = 0; i < many; i++) {
            int sort = i == 0 ? 0 : below(3);
            int day = i == 0 ? below(3) : below(days);
            int who = chance(95) ? below(v.people) : below(16);
            if (sort == 2) {
                boolean next = chance(10) && v.ties.size() < 40;
                int there = v.ties.isEmpty() || chance(5) ? below(40) : below(v.ties.size());
                int tie = next ? v.ties.size() : there;
                acts.add(new int[] {2, tie, day, Math.min(99, day + below(days))});
            } else {
                acts.add(new int[] {sort, day, who, -1});
            }
        }
        return acts;
    }

    /** All told something at once, and a little behind that. */
    private static List<int[]> start(Model.Village v) {
        List<int[]> acts = new ArrayList<>();
        int day = below(4);
        int words = 20 + below(70);
        for (int p = 0; p < v.people; p++) {
            acts.add(new int[] {chance(words) ? 0 : 1, day, p, -1});
        }
        for (int i = below(4); i > 0; i--) {
            acts.add(new int[] {below(2), below(30), below(v.people), -1});
        }
        return acts;
    }

    private static String text(List<int[]> acts) {
        StringBuilder b = new StringBuilder();
        for (int[] act : acts) {
            b.append(ACTS[act[0]]);
            for (int i = 1; i < 4 && (i < 3 || act[0] == 2); i++) {
                b.append(' ').append(act[i]);
            }
            b.append(';');
        }
        return b.toString();
    }

    private static void looks(SaidBack x, String run, Model.Village v, List<int[]> acts) {
        DUE.is(run + "people", x.village(0, 0), v.people);
        DUE.is(run + "ties", x.village(0, 1), v.ties.size());
        DUE.is(run + "slow", x.village(0, 2), v.slow);
        DUE.is(run + "word tires", x.village(0, 3), v.wordTires);
        DUE.is(run + "denial tires", x.village(0, 4), v.denialTires);
        for (int p = 0; p < 16; p++) {
            DUE.is(run + "kind " + p, x.village(0, 10 + p), p < v.people ? v.kind[p] : -1);
            DUE.is(run + "doubt " + p, x.village(0, 30 + p), p < v.people ? v.doubt[p] : -1);
        }
        for (int t = 0; t <= v.ties.size(); t++) {
            for (int i = 0; i < 4; i++) {
                DUE.is(run + "tie " + t + " " + i, x.tie(0, t, i), t < v.ties.size() ? v.ties.get(t)[i] : -1);
            }
        }
        DUE.is(run + "acts", x.act(0, -1, 0), acts.size());
        for (int a = 0; a <= acts.size(); a++) {
            for (int i = 0; i < 4; i++) {
                DUE.is(run + "act " + a + " " + i, x.act(0, a, i), a < acts.size() ? acts.get(a)[i] : -2);
            }
        }
    }

    private static void runs(SaidBack x, String run, Model.Village v, List<int[]> acts, int telling) {
        Model m = new Model(v, acts);
        int step = 1 + below(13);
        for (int day = 0; day < Model.DAYS; day += day < 30 ? 1 : step) {
            DUE.is(run + "holders " + day, x.holders(0, telling, day, false), m.holders(day));
            DUE.is(run + "deniers " + day, x.holders(0, telling, day, true), m.deniers(day));
            int p = below(v.people);
            String at = run + "person " + p + " on " + day + ": ";
            DUE.is(at + "has", x.person(0, telling, day, p, 0), m.has[day][p]);
            DUE.is(at + "word", x.person(0, telling, day, p, 1), m.w[day][p]);
            DUE.is(at + "denial", x.person(0, telling, day, p, 2), m.d[day][p]);
            DUE.is(at + "sum", x.person(0, telling, day, p, 3), m.sum[day][p]);
            DUE.is(at + "says", x.person(0, telling, day, p, 4), m.says[day][p]);
            DUE.is(run + "held " + p + " " + day, x.held(0, telling, p, day), m.held(p, day));
        }
        for (int what = 0; what < 7; what++) {
            DUE.is(run + "run " + what, x.run(0, telling, what), m.run(what));
        }
        for (int what = 0; what < 4; what++) {
            DUE.is(run + "whole " + what, x.whole(0, telling, what), m.whole(what));
        }
        for (int p = 0; p < v.people; p++) {
            for (int i = 0; i < 4; i++) {
                boolean deny = i % 2 == 1;
                boolean from = i > 1;
                DUE.is(run + "heard " + p + deny + from, x.heard(0, telling, p, deny, from), m.heard(p, deny, from));
            }
            DUE.is(run + "wavers " + p, x.wavers(0, telling, p), m.wavers(p));
            List<Integer> chain = m.chain(p);
            DUE.is(run + "chain " + p, x.chain(0, telling, p, -1), chain.size());
            for (int k = 0; k <= chain.size(); k++) {
                DUE.is(run + "chain " + p + " " + k, x.chain(0, telling, p, k), k < chain.size() ? chain.get(k) : -2);
            }
        }
    }

    /** A what-if changes nothing that is told. */
    private static void stays(SaidBack x, String run, Model.Village v, List<int[]> acts) {
        Model m = new Model(v, acts);
        for (int what = 0; what < 7; what++) {
            DUE.is(run + "still run " + what, x.run(0, 0, what), m.run(what));
        }
        int day = below(Model.DAYS);
        DUE.is(run + "still holders " + day, x.holders(0, 0, day, false), m.holders(day));
        DUE.is(run + "still deniers " + day, x.holders(0, 0, day, true), m.deniers(day));
        DUE.is(run + "still ever", x.whole(0, 0, 0), m.whole(0));
    }

    private static void begins(SaidBack x, String run, Model.Village v, List<int[]> acts) {
        int day = below(chance(80) ? 10 : 100);
        int one = 1 << below(v.people) | 1 << below(v.people);
        int holders = chance(70) ? new Model(v, Model.begun(acts, one)).holders(day) : below(1 << v.people);
        List<Integer> begun = Model.beginnings(v, acts, day, holders);
        String at = run + "day " + day + " holders " + holders + ": ";
        DUE.is(at + "begun", x.begun(0, 0, day, holders, -1), begun.size());
        for (int k = 0; k <= begun.size(); k++) {
            DUE.is(at + "begun " + k, x.begun(0, 0, day, holders, k), k < begun.size() ? begun.get(k) : -2);
        }
        int[] origin = Model.origin(v, acts, day, holders);
        DUE.is(at + "origin", x.origin(0, 0, day, holders, false), origin[0]);
        DUE.is(at + "origin far", x.origin(0, 0, day, holders, true), origin[1]);
        int[] worst = Model.worst(v, acts);
        for (int what = 0; what < 4; what++) {
            DUE.is(run + "worst " + what, x.worst(0, 0, what), worst[what]);
        }
    }

    private static void weighs(SaidBack x, String run, Model.Village v, List<int[]> acts) {
        int p = below(v.people);
        DUE.is(run + "matters " + p, x.matters(0, 0, p), Model.matters(v, acts, p));
        DUE.is(run + "key", x.key(0, 0, false), Model.key(v, acts));
        DUE.is(run + "sever", x.key(0, 0, true), Model.sever(v, acts));
        int kind = below(6);
        int[] turn = Model.turn(v, acts, kind);
        DUE.is(run + "turn " + kind, x.turn(0, 0, kind, false), turn[0]);
        DUE.is(run + "turn end " + kind, x.turn(0, 0, kind, true), turn[1]);
        DUE.is(run + "deaf " + p, x.deaf(0, 0, p), Model.deaf(v, acts, p));
        for (int n = 0; n < 3; n++) {
            DUE.is(run + "shield " + p + " " + n, x.shield(0, 0, p, n), Model.shield(v, acts, p, n));
        }
    }

    private static void cures(SaidBack x, String run, Model.Village v, List<int[]> acts) {
        int day = below(chance(80) ? 14 : 100);
        for (int n = 0; n < 4; n++) {
            DUE.is(run + "cure " + day + " " + n, x.cure(0, 0, day, n), Model.cure(v, acts, day, n));
        }
        for (int n = 0; n < 3; n++) {
            DUE.is(run + "cures " + day + " " + n, x.cures(0, 0, day, n), Model.cures(v, acts, day, n));
            DUE.is(run + "barred " + day + " " + n, x.barred(0, 0, day, n), Model.barred(v, acts, day, n));
        }
        int p = below(v.people);
        int from = Math.min(90, day);
        DUE.is(run + "often " + from + " " + p, x.often(0, 0, from, p), Model.often(v, acts, from, p));
        int[] join = Model.join(v, acts);
        DUE.is(run + "join", x.join(0, 0, false), join[0]);
        DUE.is(run + "join to", x.join(0, 0, true), join[1]);
    }

    private static void draws(SaidBack x, String run, Model.Village v, List<int[]> acts) {
        int seed = chance(20) ? -below(1000000) : below(2000000000);
        int day = below(Model.DAYS);
        int w = 1 + below(6);
        int clean = 0;
        int holders = 0;
        for (int i = 0; i < w; i++) {
            Model m = Model.drawn(v, acts, seed + i);
            clean += m.clean ? 1 : 0;
            holders += Integer.bitCount(m.holders(day));
            DUE.is(run + "drawn " + seed, x.drawn(0, 0, seed + i, day, 0), m.holders(day));
            DUE.is(run + "drawn clean " + seed, x.drawn(0, 0, seed + i, day, 1), m.clean ? 1 : 0);
        }
        DUE.is(run + "worlds", x.worlds(0, 0, seed, w, day, false), clean);
        DUE.is(run + "worlds' holders", x.worlds(0, 0, seed, w, day, true), holders);
    }

    private static void goes(SaidBack x, String run, Model.Village v) {
        for (int p = 0; p < v.people; p++) {
            DUE.is(run + "reach " + p, x.reach(0, p, 0), Model.reach(v, p, 0L));
            DUE.is(run + "core " + p, x.reach(0, p, 1), Model.core(v, p));
            DUE.is(run + "ear " + p, x.reach(0, p, 2), Model.ear(v, p));
        }
        DUE.is(run + "loud", x.loud(0), Model.loud(v));
        for (int i = 0; i < 4 && v.people > 1; i++) {
            int from = below(v.people);
            int to = (from + 1 + below(v.people - 1)) % v.people;
            long[] cut = Model.cut(v, from, to);
            String at = run + from + " to " + to + ": ";
            DUE.is(at + "apart", x.apart(0, from, to), cut[0]);
            DUE.is(at + "cut", x.cut(0, from, to), cut[1]);
            DUE.is(at + "soon", x.soon(0, from, to, false), Model.soon(v, from, to, false));
            DUE.is(at + "soon denied", x.soon(0, from, to, true), Model.soon(v, from, to, true));
        }
    }

    private static SaidBack told(Model.Village v, List<int[]> acts, List<int[]> other) {
        return Tapes.with(text(v), text(acts), text(other));
    }

    private static void small(int round) {
        Model.Village v = round % 2 == 0 ? village(1 + below(6), below(13)) : round(1 + below(6));
        List<int[]> acts = round % 4 == 1 ? start(v) : telling(v, 1 + below(8));
        List<int[]> other = telling(v, 1 + below(4));
        String run = "small " + round + " " + text(v) + " | " + text(acts) + ": ";
        looks(told(v, acts, other), run, v, acts);
        SaidBack x = told(v, acts, other);
        runs(x, run, v, acts, 0);
        runs(told(v, acts, other), run + "without acts: ", v, new ArrayList<>(), -1);
        x = told(v, acts, other);
        DUE.is(run + "unlike", x.unlike(0, 0, 1), Model.unlike(v, acts, other));
        DUE.is(run + "unlike none", x.unlike(0, 0, -1), Model.unlike(v, acts, new ArrayList<>()));
        stays(x, run, v, acts);
        begins(x, run, v, acts);
        stays(x, run, v, acts);
        weighs(x, run, v, acts);
        stays(x, run, v, acts);
        x = told(v, acts, other);
        cures(x, run, v, acts);
        stays(x, run, v, acts);
        draws(x, run, v, acts);
        stays(x, run, v, acts);
        goes(x, run, v);
        if (round % 9 == 0) {
            for (int n = 0; n < 3; n++) {
                DUE.is(run + "late " + n, x.late(0, 0, n), Model.late(v, acts, n));
            }
        }
        runs(told(v, acts, other), run + "the other: ", v, other, 1);
    }

    /** Few people, ties, acts: what a what-if adds meets acts of those, and of ties, that are not there. */
    private static void tiny(int round) {
        Model.Village v = village(1 + below(3), below(3));
        v.denialTires = below(3);
        List<int[]> acts = chance(50) ? start(v) : telling(v, 1 + below(4));
        for (int i = below(3); i > 0; i--) {
            int day = below(4);
            acts.add(chance(50) ? new int[] {2, v.ties.size() + below(2), day, day + below(90)}
                : new int[] {below(2), day, v.people + below(2), -1});
        }
        String run = "tiny " + round + " " + text(v) + " | " + text(acts) + ": ";
        SaidBack x = told(v, acts, acts);
        runs(x, run, v, acts, 0);
        cures(x, run, v, acts);
        weighs(x, run, v, acts);
        begins(x, run, v, acts);
        stays(x, run, v, acts);
    }

    private static void great(int round) {
        Model.Village v = round % 2 == 0 ? village(7 + below(10), 10 + below(31)) : round(7 + below(10));
        while (text(v).length() > 600) {
            v.ties.remove(v.ties.size() - 1);
        }
        List<int[]> acts = round % 4 == 1 ? start(v) : telling(v, 2 + below(29));
        String run = "great " + round + " " + text(v) + " | " + text(acts) + ": ";
        SaidBack x = told(v, acts, acts);
        looks(x, run, v, acts);
        x = told(v, acts, acts);
        runs(x, run, v, acts, 0);
        x = told(v, acts, acts);
        draws(x, run, v, acts);
        goes(x, run, v);
        begins(x, run, v, acts);
        int day = below(20);
        DUE.is(run + "cure " + day, x.cure(0, 0, day, 2), Model.cure(v, acts, day, 2));
        DUE.is(run + "barred " + day, x.barred(0, 0, day, 2), Model.barred(v, acts, day, 2));
        DUE.is(run + "key", x.key(0, 0, false), Model.key(v, acts));
        DUE.is(run + "sever", x.key(0, 0, true), Model.sever(v, acts));
        int p = below(v.people);
        DUE.is(run + "shield " + p, x.shield(0, 0, p, 2), Model.shield(v, acts, p, 2));
        int[] join = Model.join(v, acts);
        DUE.is(run + "join", x.join(0, 0, false), join[0]);
    }

    public static void main(String[] args) {
        int rounds = args.length > 0 ? Integer.parseInt(args[0]) : 200;
        for (int round = 0; round < rounds; round++) {
            small(round);
        }
        for (int round = 0; round < rounds; round++) {
            tiny(round);
        }
        for (int round = 0; round < rounds / 8; round++) {
            great(round);
        }
        DUE.end();
    }
}
