import java.util.ArrayList;
import java.util.Arrays;
import java.util.List;

/**
 * The document once more, as slowly and plainly as it can be put, to hold the class against.
 * Nothing is kept that can be worked out anew: tests are all gone through, sharings are all
 * listed, and new wires are found by trying every set of points at which they may branch.
 */
final class PlainModel {
    static final int BAD = -1, NO = -2, FULL = -3, NONE = -4;
    private static final int FAR = 10000;

    private static final class Pull {
        int floor, place, rank, bell;
        List<Integer> cranks = new ArrayList<>();
        boolean flag, waits;
        int since, errands, waited, longest;
        Servant by;
    }

    private static final class Servant {
        int number, floor, place, tasks, over, errands;
        Pull errand;
    }

    private final int[] cranks = new int[16];
    private final int[] tones = new int[8];
    private final int[] mute = new int[8];
    private final int[] swing = new int[8];
    private final List<int[]> pairs = new ArrayList<>();
    private final List<Pull> pulls = new ArrayList<>();
    private final List<Servant> servants = new ArrayList<>();
    private final List<int[]> tests = new ArrayList<>();
    private final int[][] between = new int[24][24];
    private int heat, ticks, takenBack;

    private static boolean in(int n, int low, int high) {
        return n >= low && n <= high;
    }

    private boolean isPull(int n) {
        return in(n, 0, pulls.size() - 1);
    }

    int crank(int crank, int v) {
        if (!in(crank, 0, 15) || !in(v, 0, 10)) return BAD;
        int was = cranks[crank];
        cranks[crank] = v;
        return was;
    }

    int bell(int bell, int what, int v) {
        if (!in(bell, 0, 7) || !in(what, 0, 1) || !in(v, 0, what == 0 ? 5 : 1)) return BAD;
        int[] row = what == 0 ? tones : mute;
        int was = row[bell];
        row[bell] = v;
        return was;
    }

    int heat(int v) {
        if (!in(v, 0, 40)) return BAD;
        int was = heat;
        heat = v;
        return was;
    }

    int pull(int floor, int place, int rank, int bell, int bits) {
        if (!in(floor, 0, 3) || !in(place, 0, 30) || !in(rank, 0, 4) || !in(bell, 0, 7)) return BAD;
        if (!in(bits, 1, 65535) || Integer.bitCount(bits) > 5) return BAD;
        if (pulls.size() == 12) return FULL;
        Pull p = new Pull();
        p.floor = floor;
        p.place = place;
        p.rank = rank;
        p.bell = bell;
        for (int c = 0; c < 16; c++) if ((bits & 1 << c) != 0) p.cranks.add(c);
        pulls.add(p);
        return pulls.size() - 1;
    }

    private boolean crossed(int a, int b) {
        for (int[] pair : pairs) {
            if (pair[0] == a && pair[1] == b || pair[0] == b && pair[1] == a) return true;
        }
        return false;
    }

    int cross(int a, int b) {
        if (!in(a, 0, 15) || !in(b, 0, 15) || a == b) return BAD;
        if (crossed(a, b)) return NO;
        if (pairs.size() == 4) return FULL;
        pairs.add(new int[] {a, b});
        return pairs.size();
    }

    int uncross() {
        int were = pairs.size();
        pairs.clear();
        return were;
    }

    private static int forceWith(Pull p, int[] cranks, int heat) {
        int f = 10 - heat * p.cranks.size() / 20;
        for (int c : p.cranks) {
            if (cranks[c] == 10) return 0;
            f -= cranks[c];
        }
        return Math.max(0, f);
    }

    int force(int pull) {
        return isPull(pull) ? forceWith(pulls.get(pull), cranks, heat) : BAD;
    }

    private boolean touches(Pull p, Pull q) {
        for (int a : p.cranks) for (int b : q.cranks) if (crossed(a, b)) return true;
        return false;
    }

    private int ringing(Pull p, int bell) {
        if (mute[bell] == 1) return 0;
        int f = forceWith(p, cranks, heat);
        if (p.bell == bell) return f >= 6 ? 2 : f >= 1 ? 1 : 0;
        if (f < 6) return 0;
        for (Pull q : pulls) {
            if (q == p || q.bell != bell || !touches(p, q)) continue;
            boolean dead = false;
            for (int c : q.cranks) dead |= cranks[c] == 10;
            if (!dead) return 1;
        }
        return 0;
    }

    int would(int pull, int bell) {
        if (!isPull(pull) || !in(bell, 0, 7)) return BAD;
        return ringing(pulls.get(pull), bell);
    }

    int means(int tone, int loud, int seen) {
        if (!in(tone, -1, 5) || !in(loud, 0, 2) || !in(seen, -1, 255)) return BAD;
        int bits = 0;
        for (int i = 0; i < pulls.size(); i++) {
            for (int b = 0; b < 8; b++) {
                int r = ringing(pulls.get(i), b);
                boolean so = loud == 0 ? r > 0 : r == loud;
                boolean heard = tone == -1 || tones[b] == tone;
                boolean among = seen == -1 || (seen & 1 << b) != 0;
                if (so && heard && among) bits |= 1 << i;
            }
        }
        return bits;
    }

    int servant(int floor, int place, int tasks) {
        if (!in(floor, 0, 3) || !in(place, 0, 30) || !in(tasks, 0, 31)) return BAD;
        if (servants.size() == 5) return FULL;
        Servant s = new Servant();
        s.number = servants.size();
        s.floor = floor;
        s.place = place;
        s.tasks = tasks;
        servants.add(s);
        return s.number;
    }

    int ring(int pull) {
        if (!isPull(pull)) return BAD;
        Pull p = pulls.get(pull);
        int bits = 0;
        for (int b = 0; b < 8; b++) {
            int r = ringing(p, b);
            if (r == 0) continue;
            bits |= 1 << b;
            int long1 = r == 2 ? 8 : 4;
            if (long1 > swing[b]) swing[b] = long1;
        }
        if (bits != 0) {
            p.flag = true;
            if (!p.waits && p.by == null) {
                p.waits = true;
                p.since = ticks;
            }
        }
        return bits;
    }

    private static int wayOf(Servant s, Pull p) {
        if (s.floor == p.floor) return Math.abs(s.place - p.place);
        return Math.abs(s.place - 15) + 6 * Math.abs(s.floor - p.floor) + Math.abs(15 - p.place);
    }

    private static boolean may(Servant s, Pull p) {
        return s.errand == null && (s.tasks & 1 << p.rank) != 0;
    }

    private void go(Servant s, Pull p) {
        int way = wayOf(s, p);
        int long1 = ticks - p.since + way;
        p.waits = false;
        p.by = s;
        p.errands++;
        p.waited += long1;
        p.longest = Math.max(p.longest, long1);
        s.errand = p;
        s.errands++;
        s.over = ticks + way + 3;
    }

    private boolean sendOne() {
        List<Pull> order = new ArrayList<>(waiting());
        order.sort((p, q) -> p.rank != q.rank ? q.rank - p.rank : p.since - q.since);
        for (Pull p : order) {
            Servant nearest = null;
            for (Servant s : servants) {
                if (may(s, p) && (nearest == null || wayOf(s, p) < wayOf(nearest, p))) nearest = s;
            }
            if (nearest != null) {
                go(nearest, p);
                return true;
            }
        }
        return false;
    }

    int ticks(int n) {
        if (!in(n, 1, 200)) return BAD;
        if (ticks + n > 5000) return FULL;
        for (int i = 0; i < n; i++) {
            while (sendOne()) { }
            for (int b = 0; b < 8; b++) swing[b] = Math.max(0, swing[b] - 1);
            ticks++;
            for (Servant s : servants) {
                if (s.errand != null && s.over == ticks) {
                    s.floor = s.errand.floor;
                    s.place = s.errand.place;
                    s.errand.by = null;
                    s.errand = null;
                }
            }
        }
        return ticks;
    }

    int takeBack(int pull) {
        if (!isPull(pull)) return BAD;
        Pull p = pulls.get(pull);
        if (!p.waits) return NO;
        p.waits = false;
        takenBack++;
        return ticks - p.since;
    }

    int flags(int set) {
        if (set < 0 || set >= 1 << pulls.size()) return BAD;
        int were = 0;
        for (int i = 0; i < pulls.size(); i++) {
            if ((set & 1 << i) != 0) {
                if (pulls.get(i).flag) were |= 1 << i;
                pulls.get(i).flag = false;
            }
        }
        return were;
    }

    int about(int pull, int what) {
        if (!isPull(pull) || !in(what, 0, 4)) return BAD;
        Pull p = pulls.get(pull);
        int state = p.waits ? 1 : p.by != null ? 2 : 0;
        return new int[] {state, p.flag ? 1 : 0, p.errands, p.waited, p.longest}[what];
    }

    int servantTold(int servant, int what) {
        if (!in(servant, 0, servants.size() - 1) || !in(what, 0, 4)) return BAD;
        Servant s = servants.get(servant);
        int on = s.errand == null ? NONE : pulls.indexOf(s.errand);
        int left = s.errand == null ? 0 : s.over - ticks;
        return new int[] {s.floor, s.place, on, left, s.errands}[what];
    }

    int way(int servant, int pull) {
        if (!in(servant, 0, servants.size() - 1) || !isPull(pull)) return BAD;
        return wayOf(servants.get(servant), pulls.get(pull));
    }

    int swings(int bell) {
        if (!in(bell, -1, 7)) return BAD;
        if (bell >= 0) return swing[bell];
        int bits = 0;
        for (int b = 0; b < 8; b++) if (swing[b] > 0) bits |= 1 << b;
        return bits;
    }

    private List<Pull> waiting() {
        List<Pull> some = new ArrayList<>();
        for (Pull p : pulls) if (p.waits) some.add(p);
        return some;
    }

    /** The servants by their numbers, 5 for none, then the cost. */
    private int[] bestSharing() {
        List<Pull> some = waiting();
        List<int[]> all = new ArrayList<>();
        int combinations = (int) Math.round(Math.pow(6, some.size()));
        for (int n = 0; n < combinations; n++) {
            int[] sharing = new int[some.size() + 1];
            int rest = n, cost = 0, used = 0;
            boolean possible = true;
            for (int i = 0; i < some.size(); i++) {
                Pull p = some.get(i);
                int s = rest % 6;
                rest /= 6;
                sharing[i] = s;
                if (s == 5) {
                    cost += (p.rank + 1) * 100;
                } else if (s >= servants.size() || !may(servants.get(s), p) || (used & 1 << s) != 0) {
                    possible = false;
                } else {
                    used |= 1 << s;
                    cost += (p.rank + 1) * wayOf(servants.get(s), p);
                }
            }
            sharing[some.size()] = cost;
            if (possible) all.add(sharing);
        }
        int last = some.size();
        all.sort((a, b) -> a[last] != b[last] ? a[last] - b[last] : Arrays.compare(a, b));
        return all.get(0);
    }

    int share(int pull) {
        if (pull != -1 && !isPull(pull)) return BAD;
        List<Pull> some = waiting();
        if (some.size() > 4) return NO;
        int[] best = bestSharing();
        if (pull == -1) return best[some.size()];
        int i = some.indexOf(pulls.get(pull));
        return i < 0 || best[i] == 5 ? NONE : best[i];
    }

    int send() {
        List<Pull> some = waiting();
        if (some.size() > 4) return NO;
        int[] best = bestSharing();
        int gone = 0;
        for (int i = 0; i < some.size(); i++) {
            if (best[i] != 5) {
                go(servants.get(best[i]), some.get(i));
                gone++;
            }
        }
        return gone;
    }

    int test(int pull, int heat, int outcome) {
        if (!isPull(pull) || !in(heat, 0, 40) || !in(outcome, -1, 2)) return BAD;
        if (tests.size() == 12) return FULL;
        tests.add(new int[] {pull, heat, outcome});
        return tests.size();
    }

    int noTests() {
        int were = tests.size();
        tests.clear();
        return were;
    }

    private int outcome(int fault, int pull, int heat) {
        int[] row = new int[16];
        int[] silent = new int[8];
        int number = 0;
        for (int c = 0; c < 16; c++) if (number++ == fault) row[c] = 10;
        for (int c = 0; c < 16; c++) for (int s = 1; s <= 9; s++) if (number++ == fault) row[c] = s;
        for (int b = 0; b < 8; b++) if (number++ == fault) silent[b] = 1;
        Pull p = pulls.get(pull);
        if (silent[p.bell] == 1) return 0;
        int f = forceWith(p, row, heat);
        return f >= 6 ? 2 : f >= 1 ? 1 : 0;
    }

    private List<Integer> explaining() {
        List<Integer> some = new ArrayList<>();
        for (int f = 0; f < 168; f++) {
            boolean all = true;
            for (int[] t : tests) {
                all = all && (t[2] == -1 || outcome(f, t[0], t[1]) == t[2]);
            }
            if (all) some.add(f);
        }
        return some;
    }

    int fault(int i) {
        if (i < -1) return BAD;
        List<Integer> some = explaining();
        return i == -1 ? some.size() : i < some.size() ? some.get(i) : NONE;
    }

    int nextTest() {
        List<Integer> some = explaining();
        int best = NONE, least = FAR;
        if (some.size() < 2) return NONE;
        for (int i = 0; i < pulls.size(); i++) {
            int[] alike = new int[3];
            for (int f : some) alike[outcome(f, i, heat)]++;
            Arrays.sort(alike);
            if (alike[2] < least) {
                least = alike[2];
                best = i;
            }
        }
        return best;
    }

    private static boolean neighbours(int a, int b) {
        return Math.abs(a / 6 - b / 6) + Math.abs(a % 6 - b % 6) == 1;
    }

    int frame(int a, int b, int v) {
        if (!in(a, 0, 23) || !in(b, 0, 23) || !neighbours(a, b) || !in(v, 0, 2)) return BAD;
        int was = between[a][b];
        between[a][b] = v;
        between[b][a] = v;
        return was;
    }

    private int[][] distances() {
        int[][] d = new int[24][24];
        for (int a = 0; a < 24; a++) {
            for (int b = 0; b < 24; b++) {
                boolean open = neighbours(a, b) && between[a][b] != 1;
                d[a][b] = a == b ? 0 : open ? (between[a][b] == 2 ? 0 : 1) : FAR;
            }
        }
        for (int k = 0; k < 24; k++)
            for (int a = 0; a < 24; a++)
                for (int b = 0; b < 24; b++) d[a][b] = Math.min(d[a][b], d[a][k] + d[k][b]);
        return d;
    }

    /** The least tree over just these points, by ways between them. */
    private static int leastTree(int[] points, int[][] d) {
        int[] near = new int[points.length];
        boolean[] done = new boolean[points.length];
        Arrays.fill(near, FAR * 10);
        near[0] = 0;
        int cost = 0;
        for (int n = 0; n < points.length; n++) {
            int next = -1;
            for (int i = 0; i < points.length; i++) {
                if (!done[i] && (next < 0 || near[i] < near[next])) next = i;
            }
            done[next] = true;
            cost += near[next];
            for (int i = 0; i < points.length; i++) {
                near[i] = Math.min(near[i], d[points[next]][points[i]]);
            }
        }
        return cost;
    }

    /** A tree of n ends branches at n - 2 points at most; a point may be taken twice. */
    int wires(int set) {
        if (set <= 0 || set >= 1 << 24 || Integer.bitCount(set) > 5) return BAD;
        int many = Integer.bitCount(set);
        int[] points = new int[many + 3];
        int n = 0;
        for (int p = 0; p < 24; p++) if ((set & 1 << p) != 0) points[n++] = p;
        int[][] d = distances();
        int best = FAR;
        for (int a = 0; a < 24; a++) {
            for (int b = a; b < 24; b++) {
                for (int c = b; c < 24; c++) {
                    points[many] = a;
                    points[many + 1] = b;
                    points[many + 2] = c;
                    best = Math.min(best, leastTree(points, d));
                    if (many < 5) break;
                }
                if (many < 4) break;
            }
        }
        return best >= FAR ? NONE : best;
    }

    int count(int what) {
        int waits = 0, errands = 0, flags = 0, wires = 0;
        for (Pull p : pulls) {
            waits += p.waits ? 1 : 0;
            errands += p.by != null ? 1 : 0;
            flags += p.flag ? 1 : 0;
        }
        for (int a = 0; a < 24; a++) for (int b = 0; b < a; b++) wires += between[a][b] == 2 ? 1 : 0;
        int[] all = {pulls.size(), servants.size(), ticks, waits, errands, flags, tests.size(),
            wires, takenBack};
        return in(what, 0, 8) ? all[what] : BAD;
    }
}
