import java.util.ArrayList;
import java.util.Arrays;
import java.util.HashMap;
import java.util.List;
import java.util.Map;

/** The document's runs, written a second time, as plainly as can be: what ModelTest holds the class against. */
final class Model {
    static final int DAYS = 201;

    static final class Village {
        int people = 2;
        int[] kind = new int[16];
        int[] doubt = new int[16];
        List<int[]> ties = new ArrayList<>();
        int slow;
        int wordTires;
        int denialTires;
        /** How many of the ties are not the village's own: no act tells of them. */
        int further;

        Village() {
            Arrays.fill(doubt, 1);
        }

        Village copy() {
            Village v = new Village();
            v.people = people;
            v.kind = kind.clone();
            v.doubt = doubt.clone();
            v.ties = new ArrayList<>(ties);
            v.slow = slow;
            v.wordTires = wordTires;
            v.denialTires = denialTires;
            v.further = further;
            return v;
        }
    }

    /** Acts: sort (0 word, 1 deny, 2 wall) and numbers as told. */
    static List<int[]> with(List<int[]> acts, int[]... more) {
        List<int[]> all = new ArrayList<>(acts);
        all.addAll(Arrays.asList(more));
        return all;
    }

    static List<int[]> walls(List<int[]> acts) {
        List<int[]> walls = new ArrayList<>();
        for (int[] act : acts) {
            if (act[0] == 2) {
                walls.add(act);
            }
        }
        return walls;
    }

    // a run
    final Village village;
    final int[][] has = new int[DAYS][16];
    final int[][] w = new int[DAYS][16];
    final int[][] d = new int[DAYS][16];
    final int[][] sum = new int[DAYS][16];
    final int[][] says = new int[DAYS][16];
    final int[][] rawW = new int[DAYS + 10][16];
    final int[][] rawD = new int[DAYS + 10][16];
    final long[][] bringsW = new long[DAYS + 10][16];
    final long[][] bringsD = new long[DAYS + 10][16];
    int lastDay;
    int ringDay = -1;
    int ringLength = -1;
    boolean clean;

    Model(Village village, List<int[]> acts) {
        this(village, acts, 0, 0L, 0L, 0);
    }

    Model(Village v, List<int[]> acts, int silent, long dead, long barred, int barDay) {
        village = v;
        for (int[] act : acts) {
            lastDay = Math.max(lastDay, act[0] == 2 ? act[3] : act[1]);
        }
        if (barred != 0) {
            lastDay = Math.max(lastDay, barDay);
        }
        int[] countW = new int[16];
        int[] countD = new int[16];
        String[] state = new String[DAYS];
        for (int day = 0; day < DAYS; day++) {
            for (int[] act : acts) {
                if (act[0] != 2 && act[1] == day && act[2] < v.people) {
                    (act[0] == 0 ? rawW : rawD)[day][act[2]] += 9;
                }
            }
            for (int p = 0; p < v.people; p++) {
                int before = day == 0 ? 0 : has[day - 1][p];
                int sumBefore = day == 0 ? 0 : sum[day - 1][p];
                int W = rawW[day][p] < v.doubt[p] ? 0 : rawW[day][p];
                int D = rawD[day][p] < v.doubt[p] ? 0 : rawD[day][p];
                w[day][p] = W;
                d[day][p] = D;
                sum[day][p] = sumBefore;
                int now = before;
                switch (v.kind[p]) {
                    case 0:
                    case 5:
                        if (before == 0 && (W > 0 || D > 0)) {
                            now = W >= D ? 1 : 2;
                        }
                        break;
                    case 1:
                        if (W > D) {
                            now = 1;
                        }
                        if (D > W) {
                            now = 2;
                        }
                        break;
                    case 2:
                        int s = sumBefore + W - D;
                        s = s > 99 ? 99 : s < -99 ? -99 : s;
                        sum[day][p] = s;
                        now = s > 0 ? 1 : s < 0 ? 2 : before;
                        break;
                    case 3:
                        if (D > 0) {
                            now = 2;
                        } else if (W > 0 && before == 0) {
                            now = 1;
                        }
                        break;
                    default:
                        now = before | (W > 0 ? 1 : 0) | (D > 0 ? 2 : 0);
                }
                has[day][p] = now;
            }
            for (int p = 0; p < v.people; p++) {
                if ((silent >> p & 1) != 0) {
                    continue;
                }
                int limitW = v.kind[p] == 5 ? 1 : v.wordTires == 0 ? 1000 : v.wordTires;
                int limitD = v.kind[p] == 5 ? 1 : v.denialTires == 0 ? 1000 : v.denialTires;
                boolean word = (has[day][p] & 1) != 0 && countW[p] < limitW;
                boolean denial = (has[day][p] & 2) != 0 && countD[p] < limitD;
                says[day][p] = (word ? 1 : 0) + (denial ? 2 : 0);
                countW[p] += word ? 1 : 0;
                countD[p] += denial ? 1 : 0;
                for (int t = 0; t < v.ties.size(); t++) {
                    int[] tie = v.ties.get(t);
                    if (tie[0] != p || (dead >> t & 1) != 0 || walled(acts, t, day)
                        || day >= barDay && (barred >> t & 1) != 0) {
                        continue;
                    }
                    if (word) {
                        rawW[day + tie[2]][tie[1]] += tie[3];
                        bringsW[day + tie[2]][tie[1]] |= 1L << p;
                    }
                    if (denial) {
                        rawD[day + tie[2] + v.slow][tie[1]] += tie[3];
                        bringsD[day + tie[2] + v.slow][tie[1]] |= 1L << p;
                    }
                }
            }
            StringBuilder b = new StringBuilder();
            for (int p = 0; p < v.people; p++) {
                b.append((char) has[day][p]).append((char) (sum[day][p] + 100));
                b.append((char) (v.wordTires > 0 || v.kind[p] == 5 ? countW[p] : 0));
                b.append((char) (v.denialTires > 0 || v.kind[p] == 5 ? countD[p] : 0));
                for (int ahead = 1; ahead <= 6; ahead++) {
                    b.append((char) rawW[day + ahead][p]).append((char) rawD[day + ahead][p]);
                }
            }
            state[day] = b.toString();
        }
        findRing(state);
    }

    private boolean walled(List<int[]> acts, int tie, int day) {
        boolean own = tie < village.ties.size() - village.further;
        for (int[] act : acts) {
            if (own && act[0] == 2 && act[1] == tie && day >= act[2] && day <= act[3]) {
                return true;
            }
        }
        return false;
    }

    private void findRing(String[] state) {
        Map<String, Integer> later = new HashMap<>();
        for (int day = DAYS - 1; day >= lastDay; day--) {
            Integer next = later.put(state[day], day);
            if (next != null) {
                ringDay = day;
                ringLength = next - day;
            }
        }
        clean = ringDay >= 0;
        for (int day = ringDay; ringDay >= 0 && day < ringDay + ringLength; day++) {
            clean &= holders(day) == 0;
        }
    }

    int holders(int day) {
        int bits = 0;
        for (int p = 0; p < village.people; p++) {
            bits |= has[day][p] == 1 ? 1 << p : 0;
        }
        return bits;
    }

    int deniers(int day) {
        int bits = 0;
        for (int p = 0; p < village.people; p++) {
            bits |= has[day][p] >= 2 ? 1 << p : 0;
        }
        return bits;
    }

    int end() {
        return Integer.bitCount(holders(ringDay < 0 ? 200 : ringDay));
    }

    int ever() {
        int bits = 0;
        for (int day = 0; day < DAYS; day++) {
            bits |= holders(day);
        }
        return bits;
    }

    int peak() {
        int best = 0;
        for (int day = 0; day < DAYS; day++) {
            if (Integer.bitCount(holders(day)) > Integer.bitCount(holders(best))) {
                best = day;
            }
        }
        return best;
    }

    int run(int what) {
        switch (what) {
            case 0: return ringDay;
            case 1: return ringLength;
            case 2: return clean ? 1 : 0;
            case 3: return lastDay;
            case 4: return peak();
            case 5: return Integer.bitCount(holders(peak()));
            case 6:
                for (int day = 0; day < DAYS; day++) {
                    if (Integer.bitCount(holders(day)) * 2 >= village.people) {
                        return day;
                    }
                }
                return -1;
            default: return -2;
        }
    }

    int whole(int what) {
        int answer;
        switch (what) {
            case 0: return ever();
            case 1:
                answer = 0;
                for (int day = 0; day < DAYS; day++) {
                    for (int p = 0; p < village.people; p++) {
                        answer = (says[day][p] & 1) != 0 ? day + 1 : answer;
                    }
                }
                return answer;
            case 2:
                answer = -1;
                for (int day = 0; day < DAYS; day++) {
                    answer = holders(day) != 0 ? day : answer;
                }
                return answer;
            case 3:
                answer = 0;
                for (int p = 0; p < village.people; p++) {
                    boolean firm = true;
                    for (int day = peak(); day < DAYS; day++) {
                        firm &= has[day][p] == has[peak()][p];
                    }
                    answer |= firm ? 1 << p : 0;
                }
                return answer;
            default: return -2;
        }
    }

    int wavers(int p) {
        int many = 0;
        int before = 0;
        for (int day = 0; day < DAYS; day++) {
            many += has[day][p] != before ? 1 : 0;
            before = has[day][p];
        }
        return many;
    }

    int held(int p, int n) {
        int many = 0;
        for (int day = 0; day <= n; day++) {
            many += has[day][p] == 1 ? 1 : 0;
        }
        return many;
    }

    int heard(int p, boolean deny, boolean from) {
        for (int day = 0; day < DAYS; day++) {
            if ((deny ? rawD : rawW)[day][p] > 0) {
                long who = (deny ? bringsD : bringsW)[day][p];
                return !from ? day : who == 0 ? -1 : Long.numberOfTrailingZeros(who);
            }
        }
        return -2;
    }

    List<Integer> chain(int p) {
        List<Integer> chain = new ArrayList<>();
        int one = heard(p, false, true);
        while (one >= 0) {
            boolean again = chain.contains(one);
            chain.add(one);
            one = again ? -1 : heard(one, false, true);
        }
        return chain;
    }

    /** All sets of so many at most out of n, the fewest first, of as many the least number first. */
    static List<Long> sets(int n, int most) {
        List<Long> sets = new ArrayList<>();
        sets.add(0L);
        List<Long> ring = new ArrayList<>(sets);
        for (int size = 1; size <= most; size++) {
            List<Long> next = new ArrayList<>();
            for (long set : ring) {
                for (int i = 0; i < n; i++) {
                    if (set < 1L << i) {
                        next.add(set | 1L << i);
                    }
                }
            }
            next.sort(null);
            sets.addAll(next);
            ring = next;
        }
        return sets;
    }

    static List<int[]> denied(List<int[]> acts, long set, int day) {
        List<int[]> all = new ArrayList<>(acts);
        for (int p = 0; p < 16; p++) {
            if ((set >> p & 1) != 0) {
                all.add(new int[] {1, day, p, -1});
            }
        }
        return all;
    }

    static List<int[]> begun(List<int[]> acts, long set) {
        List<int[]> all = walls(acts);
        for (int p = 0; p < 16; p++) {
            if ((set >> p & 1) != 0) {
                all.add(new int[] {0, 0, p, -1});
            }
        }
        return all;
    }

    static int cure(Village v, List<int[]> acts, int day, int n) {
        for (long set : sets(v.people, n)) {
            if (new Model(v, denied(acts, set, day)).clean) {
                return (int) set;
            }
        }
        return -1;
    }

    static int late(Village v, List<int[]> acts, int n) {
        for (int day = 40; day >= 0; day--) {
            if (cure(v, acts, day, n) >= 0) {
                return day;
            }
        }
        return -1;
    }

    static int cures(Village v, List<int[]> acts, int day, int n) {
        int many = 0;
        for (long set : sets(v.people, n)) {
            if (Long.bitCount(set) == n && new Model(v, denied(acts, set, day)).clean) {
                many++;
            }
        }
        return many;
    }

    static List<Integer> beginnings(Village v, List<int[]> acts, int day, int holders) {
        List<Integer> found = new ArrayList<>();
        for (int set = 1; set < 1 << v.people; set++) {
            if (Integer.bitCount(set) <= 2 && new Model(v, begun(acts, set)).holders(day) == holders) {
                found.add(set);
            }
        }
        return found;
    }

    static int[] origin(Village v, List<int[]> acts, int day, int holders) {
        int[] best = {-1, 99};
        for (int p = 0; p < v.people; p++) {
            int far = Integer.bitCount(new Model(v, begun(acts, 1L << p)).holders(day) ^ holders);
            if (far < best[1]) {
                best = new int[] {p, far};
            }
        }
        return best;
    }

    static int matters(Village v, List<int[]> acts, int p) {
        return new Model(v, acts).end() - new Model(v, acts, 1 << p, 0L, 0L, 0).end();
    }

    static int key(Village v, List<int[]> acts) {
        int best = 0;
        for (int p = 1; p < v.people; p++) {
            if (matters(v, acts, p) > matters(v, acts, best)) {
                best = p;
            }
        }
        return best;
    }

    static int sever(Village v, List<int[]> acts) {
        int best = -1;
        int least = 99;
        for (int t = 0; t < v.ties.size(); t++) {
            int end = new Model(v, acts, 0, 1L << t, 0L, 0).end();
            if (end < least) {
                least = end;
                best = t;
            }
        }
        return best;
    }

    static Model drawn(Village v, List<int[]> acts, int seed) {
        long dead = 0;
        int x = seed;
        for (int t = 0; t < v.ties.size(); t++) {
            x = x * 1103515245 + 12345;
            if (!((x >>> 16) % 10 < v.ties.get(t)[3])) {
                dead |= 1L << t;
            }
        }
        return new Model(v, acts, 0, dead, 0L, 0);
    }

    static long barred(Village v, List<int[]> acts, int day, int n) {
        for (long set : sets(v.ties.size(), n)) {
            if (new Model(v, acts, 0, 0L, set, day).clean) {
                return set;
            }
        }
        return -1;
    }

    static int[] join(Village v, List<int[]> acts) {
        for (int from = 0; from < v.people; from++) {
            for (int to = 0; to < v.people; to++) {
                Village more = v.copy();
                more.ties.add(new int[] {from, to, 1, 9});
                more.further = 1;
                if (from != to && new Model(more, acts).clean) {
                    return new int[] {from, to};
                }
            }
        }
        return new int[] {-1, -1};
    }

    static int unlike(Village v, List<int[]> one, List<int[]> other) {
        Model a = new Model(v, one);
        Model b = new Model(v, other);
        for (int day = 0; day < DAYS; day++) {
            if (a.holders(day) != b.holders(day)) {
                return day;
            }
        }
        return -1;
    }

    static int often(Village v, List<int[]> acts, int day, int p) {
        List<int[]> more = acts;
        for (int many = 1; many <= 9; many++) {
            more = with(more, new int[] {1, day + many - 1, p, -1});
            if (new Model(v, more).clean) {
                return many;
            }
        }
        return -1;
    }

    static int shield(Village v, List<int[]> acts, int p, int n) {
        for (long set : sets(v.people, n)) {
            if ((set >> p & 1) == 0 && (new Model(v, acts, (int) set, 0L, 0L, 0).ever() >> p & 1) == 0) {
                return (int) set;
            }
        }
        return -1;
    }

    static int[] worst(Village v, List<int[]> acts) {
        int[] best = {-1, -1, -1, -1};
        for (int p = 0; p < v.people; p++) {
            Model run = new Model(v, begun(acts, 1L << p));
            int ever = Integer.bitCount(run.ever());
            int length = run.ringDay < 0 ? 0 : run.ringLength;
            if (ever > best[1]) {
                best[0] = p;
                best[1] = ever;
            }
            if (length > best[3]) {
                best[2] = p;
                best[3] = length;
            }
        }
        return best;
    }

    static int deaf(Village v, List<int[]> acts, int p) {
        for (int doubt = 1; doubt <= 99; doubt++) {
            Village other = v.copy();
            other.doubt[p] = doubt;
            if ((new Model(other, acts).ever() >> p & 1) == 0) {
                return doubt;
            }
        }
        return -1;
    }

    static int[] turn(Village v, List<int[]> acts, int kind) {
        int[] best = {-1, 99};
        for (int p = 0; p < v.people; p++) {
            Village other = v.copy();
            other.kind[p] = kind;
            int end = new Model(other, acts).end();
            if (end < best[1]) {
                best = new int[] {p, end};
            }
        }
        return best;
    }

    // ways, whatever anybody says

    static int reach(Village v, int p, long without) {
        int seen = 1 << p;
        for (int i = 0; i < 16; i++) {
            for (int t = 0; t < v.ties.size(); t++) {
                int[] tie = v.ties.get(t);
                if ((without >> t & 1) == 0 && (seen >> tie[0] & 1) != 0) {
                    seen |= 1 << tie[1];
                }
            }
        }
        return seen;
    }

    static int core(Village v, int p) {
        int core = 0;
        for (int q = 0; q < v.people; q++) {
            if ((reach(v, p, 0L) >> q & 1) != 0 && (reach(v, q, 0L) >> p & 1) != 0) {
                core |= 1 << q;
            }
        }
        return core;
    }

    /** The fewest ties out of some who hold the one, without the other: by all sets of people. */
    static long[] cut(Village v, int from, int to) {
        long best = 0;
        int least = 999;
        int smallest = 0;
        for (int some = 0; some < 1 << v.people; some++) {
            if ((some >> from & 1) == 0 || (some >> to & 1) != 0) {
                continue;
            }
            long out = 0;
            for (int t = 0; t < v.ties.size(); t++) {
                int[] tie = v.ties.get(t);
                if ((some >> tie[0] & 1) != 0 && (some >> tie[1] & 1) == 0) {
                    out |= 1L << t;
                }
            }
            // of several the one that all the others hold: what one comes to when the ties are taken
            if (Long.bitCount(out) < least || Long.bitCount(out) == least && (some & smallest) == some) {
                least = Long.bitCount(out);
                best = out;
                smallest = some;
            }
        }
        return new long[] {least, best};
    }

    static int soon(Village v, int from, int to, boolean deny) {
        int[] far = new int[16];
        Arrays.fill(far, 9999);
        far[from] = 0;
        for (int i = 0; i < 20; i++) {
            for (int[] tie : v.ties) {
                far[tie[1]] = Math.min(far[tie[1]], far[tie[0]] + tie[2] + (deny ? v.slow : 0));
            }
        }
        return far[to] >= 9999 ? -1 : far[to];
    }

    static int ear(Village v, int p) {
        int sum = 0;
        for (int[] tie : v.ties) {
            sum += tie[1] == p ? tie[3] : 0;
        }
        return sum;
    }

    static int loud(Village v) {
        int best = -1;
        int most = 0;
        for (int p = 0; p < v.people; p++) {
            int others = 0;
            for (int[] tie : v.ties) {
                others |= tie[0] == p ? 1 << tie[1] : 0;
            }
            if (Integer.bitCount(others) > most) {
                most = Integer.bitCount(others);
                best = p;
            }
        }
        return best;
    }
}
