import java.math.BigInteger;
import java.util.ArrayDeque;
import java.util.ArrayList;
import java.util.Deque;
import java.util.HashMap;
import java.util.HashSet;
import java.util.List;
import java.util.Map;
import java.util.Set;
import java.util.TreeSet;

/**
 * The document once more, written as literally and slowly as can be, with the Java library: what it
 * answers is compared with the class. It shares no code with it.
 */
final class Oracle {
    static final int NO_SUCH = -2;

    static final class Nm {
        int home;
        int ink;
        int loops;
        List<Integer> walk = new ArrayList<>();

        Nm copy() {
            Nm n = new Nm();
            n.home = home;
            n.ink = ink;
            n.loops = loops;
            n.walk = new ArrayList<>(walk);
            return n;
        }
    }

    static final class World {
        boolean there;
        int corners;
        int steps;
        int law;
        int odds;
        List<int[]> streets = new ArrayList<>();
        List<int[]> wells = new ArrayList<>();
        List<Nm> names = new ArrayList<>();
        List<TreeSet<Integer>> contracts = new ArrayList<>();
        List<int[]> acts = new ArrayList<>();

        World copy() {
            World w = new World();
            w.there = there;
            w.corners = corners;
            w.steps = steps;
            w.law = law;
            w.odds = odds;
            w.streets.addAll(streets);
            w.wells.addAll(wells);
            for (Nm n : names) {
                w.names.add(n.copy());
            }
            w.contracts.addAll(contracts);
            w.acts.addAll(acts);
            return w;
        }

        int lines() {
            return there ? 1 + streets.size() + wells.size() + names.size() + contracts.size() : 0;
        }

        Set<Integer> closed() {
            Set<Integer> closed = new HashSet<>();
            for (int[] act : acts) {
                if (act[0] == 1 && act[2] == 1) {
                    closed.add(act[1]);
                } else if (act[0] == 1) {
                    closed.remove(act[1]);
                }
            }
            return closed;
        }

        Map<List<Integer>, Integer> sent() {
            Map<List<Integer>, Integer> sent = new HashMap<>();
            for (int[] act : acts) {
                if (act[0] == 0) {
                    sent.put(List.of(act[1], act[3]), act[2]);
                }
            }
            return sent;
        }
    }

    /** What came of one run, noted while it went. */
    static final class Outcome {
        int[][] at;
        int[][] ink;
        int[] goes;
        int[] stuck;
        int[] drinks;
        Map<Integer, int[]> signed = new HashMap<>();

        int signedTo(int step) {
            int bits = 0;
            for (Map.Entry<Integer, int[]> e : signed.entrySet()) {
                if (e.getValue()[0] <= step) {
                    bits |= 1 << e.getKey();
                }
            }
            return bits;
        }
    }

    static boolean joined(World w, Set<Integer> closed, int a, int b) {
        for (int i = 0; i < w.streets.size(); i++) {
            int[] s = w.streets.get(i);
            boolean between = s[0] == a && s[1] == b || s[0] == b && s[1] == a;
            if (between && !closed.contains(i)) {
                return true;
            }
        }
        return false;
    }

    static Outcome run(World w, Set<Integer> rainFrom, Set<Integer> stays) {
        Set<Integer> closed = w.closed();
        Map<List<Integer>, Integer> sent = w.sent();
        int many = w.names.size();
        Outcome o = new Outcome();
        o.at = new int[w.steps + 1][many];
        o.ink = new int[w.steps + 1][many];
        o.goes = new int[many];
        o.stuck = new int[many];
        o.drinks = new int[many];
        int[] place = new int[many];
        int[] ink = new int[many];
        for (int x = 0; x < many; x++) {
            place[x] = w.names.get(x).home;
            ink[x] = w.names.get(x).ink;
        }
        for (int step = 0; step <= w.steps; step++) {
            for (int x = 0; step > 0 && x < many; x++) {
                if (ink[x] == 0) {
                    continue;
                }
                ink[x]--;
                int target = place[x];
                List<Integer> walk = w.names.get(x).walk;
                if (sent.containsKey(List.of(x, step - 1))) {
                    target = sent.get(List.of(x, step - 1));
                } else if (!walk.isEmpty()) {
                    target = walk.get((step - 1) % walk.size());
                }
                if (stays.contains(x)) {
                    target = place[x];
                }
                if (target == place[x]) {
                    continue;
                }
                if (!joined(w, closed, place[x], target)) {
                    o.stuck[x]++;
                } else if (!rainFrom.contains(step - 1)) {
                    o.goes[x]++;
                    place[x] = target;
                }
            }
            for (int x = 0; x < many; x++) {
                for (int[] well : w.wells) {
                    for (int drop = 0; well[0] == place[x] && drop < well[1] && ink[x] < 60; drop++) {
                        ink[x]++;
                        o.drinks[x]++;
                    }
                }
            }
            sign(w, o, step, place, ink);
            o.at[step] = place.clone();
            o.ink[step] = ink.clone();
        }
        return o;
    }

    private static void sign(World w, Outcome o, int step, int[] place, int[] ink) {
        for (int c = 0; c < w.contracts.size(); c++) {
            TreeSet<Integer> party = w.contracts.get(c);
            if (o.signed.containsKey(c)) {
                continue;
            }
            int corner = place[party.first()];
            boolean fine = true;
            for (int x : party) {
                fine &= place[x] == corner && ink[x] > 0;
            }
            for (int x = 0; x < place.length; x++) {
                if (w.law == 1 && !party.contains(x) && place[x] == corner && ink[x] > 0) {
                    fine = false;
                }
            }
            for (Map.Entry<Integer, int[]> e : o.signed.entrySet()) {
                if (e.getValue()[0] != step) {
                    continue;
                }
                if (w.law == 2 && e.getValue()[1] == corner) {
                    fine = false;
                }
                for (int x : w.contracts.get(e.getKey())) {
                    if (w.law == 3 && party.contains(x)) {
                        fine = false;
                    }
                }
            }
            if (fine) {
                o.signed.put(c, new int[] {step, corner});
                for (int x : party) {
                    ink[x]--;
                }
            }
        }
    }

    static Outcome run(World w) {
        return run(w, Set.of(), Set.of());
    }

    static int signedCount(World w) {
        return run(w).signed.size();
    }

    // ---- what the calls answer ----

    World w = new World();
    Outcome now = run(new World());
    World[] images = new World[3];
    long[][] rows = new long[4][];
    int[] widths = {-1, -1, -1, -1};

    void settle() {
        now = run(w);
    }

    boolean hasName(int x) {
        return x >= 0 && x < w.names.size();
    }

    boolean hasStep(int s) {
        return w.there && s >= 0 && s <= w.steps;
    }

    boolean hasCorner(int c) {
        return c >= 0 && c < w.corners;
    }

    boolean hasContract(int c) {
        return c >= 0 && c < w.contracts.size();
    }

    boolean hasStreet(int s) {
        return s >= 0 && s < w.streets.size();
    }

    int street(int s, int what) {
        if (!hasStreet(s) || what < 0 || what > 2) {
            return NO_SUCH;
        }
        return what == 2 ? (w.closed().contains(s) ? 1 : 0) : w.streets.get(s)[what];
    }

    int well(int c) {
        if (!hasCorner(c)) {
            return NO_SUCH;
        }
        return w.wells.stream().filter(x -> x[0] == c).mapToInt(x -> x[1]).sum();
    }

    int name(int x, int what) {
        if (!hasName(x) || what < 0 || what > 3) {
            return NO_SUCH;
        }
        Nm n = w.names.get(x);
        return List.of(n.home, n.ink, n.loops, n.walk.size()).get(what);
    }

    int walk(int x, int i) {
        boolean is = hasName(x) && i >= 0 && i < w.names.get(x).walk.size();
        return is ? w.names.get(x).walk.get(i) : NO_SUCH;
    }

    int contract(int c) {
        return hasContract(c) ? bits(w.contracts.get(c)) : NO_SUCH;
    }

    static int bits(Iterable<Integer> set) {
        int bits = 0;
        for (int x : set) {
            bits |= 1 << x;
        }
        return bits;
    }

    int at(int x, int s) {
        return hasName(x) && hasStep(s) ? now.at[s][x] : NO_SUCH;
    }

    int ink(int x, int s) {
        return hasName(x) && hasStep(s) ? now.ink[s][x] : NO_SUCH;
    }

    int awake(int s) {
        if (!hasStep(s)) {
            return NO_SUCH;
        }
        int bits = 0;
        for (int x = 0; x < w.names.size(); x++) {
            bits += now.ink[s][x] > 0 ? 1 << x : 0;
        }
        return bits;
    }

    int here(int c, int s) {
        if (!hasCorner(c) || !hasStep(s)) {
            return NO_SUCH;
        }
        int bits = 0;
        for (int x = 0; x < w.names.size(); x++) {
            bits += now.at[s][x] == c ? 1 << x : 0;
        }
        return bits;
    }

    int sleeps(int x) {
        if (!hasName(x)) {
            return NO_SUCH;
        }
        for (int s = 0; s <= w.steps; s++) {
            if (now.ink[s][x] == 0) {
                return s;
            }
        }
        return -1;
    }

    int goes(int x) {
        return hasName(x) ? now.goes[x] : NO_SUCH;
    }

    int stuck(int x) {
        return hasName(x) ? now.stuck[x] : NO_SUCH;
    }

    int sees(int x) {
        if (!hasName(x)) {
            return NO_SUCH;
        }
        Set<Integer> seen = new HashSet<>();
        for (int[] at : now.at) {
            seen.add(at[x]);
        }
        return bits(seen);
    }

    int drinks(int x) {
        return hasName(x) ? now.drinks[x] : NO_SUCH;
    }

    int signed(int c) {
        return !hasContract(c) ? NO_SUCH : now.signed.containsKey(c) ? now.signed.get(c)[0] : -1;
    }

    int where(int c) {
        return !hasContract(c) ? NO_SUCH : now.signed.containsKey(c) ? now.signed.get(c)[1] : -1;
    }

    int signs(int s) {
        return hasStep(s) ? now.signedTo(s) : NO_SUCH;
    }

    int deeds(int x) {
        return hasName(x) ? deeds(now, x) : NO_SUCH;
    }

    int deeds(Outcome o, int x) {
        return (int) o.signed.keySet().stream().filter(c -> w.contracts.get(c).contains(x)).count();
    }

    int meets(int x, int y) {
        if (!hasName(x) || !hasName(y)) {
            return NO_SUCH;
        }
        for (int s = 0; s <= w.steps; s++) {
            if (now.at[s][x] == now.at[s][y]) {
                return s;
            }
        }
        return -1;
    }

    int often(int x, int y) {
        if (!hasName(x) || !hasName(y)) {
            return NO_SUCH;
        }
        int often = 0;
        for (int[] at : now.at) {
            often += at[x] == at[y] ? 1 : 0;
        }
        return often;
    }

    int pack() {
        if (!w.there) {
            return NO_SUCH;
        }
        int most = 0;
        for (int[] at : now.at) {
            for (int c : at) {
                int n = 0;
                for (int d : at) {
                    n += c == d ? 1 : 0;
                }
                most = Math.max(most, n);
            }
        }
        return most;
    }

    int busy() {
        if (!w.there) {
            return NO_SUCH;
        }
        int[] n = new int[w.corners];
        for (int[] at : now.at) {
            for (int c : at) {
                n[c]++;
            }
        }
        int best = 0;
        for (int c = w.corners - 1; c >= 0; c--) {
            best = n[c] >= n[best] ? c : best;
        }
        return best;
    }

    int lone(int s) {
        if (!hasStep(s)) {
            return NO_SUCH;
        }
        int bits = 0;
        for (int c = 0; c < w.corners; c++) {
            int here = here(c, s);
            bits |= Integer.bitCount(here) == 1 ? here : 0;
        }
        return bits;
    }

    int total(int s) {
        if (!hasStep(s)) {
            return NO_SUCH;
        }
        int sum = 0;
        for (int i : now.ink[s]) {
            sum += i;
        }
        return sum;
    }

    int first() {
        if (!w.there) {
            return NO_SUCH;
        }
        return now.signed.values().stream().mapToInt(v -> v[0]).min().orElse(-1);
    }

    int lies(int c) {
        if (!hasContract(c)) {
            return NO_SUCH;
        }
        for (int s = 0; s <= w.steps; s++) {
            Set<Integer> places = new HashSet<>();
            for (int x : w.contracts.get(c)) {
                places.add(now.at[s][x]);
            }
            if (places.size() == 1) {
                return s;
            }
        }
        return -1;
    }

    int thirst() {
        if (!w.there) {
            return NO_SUCH;
        }
        int best = -1;
        for (int x = 0; x < w.names.size(); x++) {
            int s = sleeps(x);
            if (s >= 0 && (best < 0 || s < sleeps(best))) {
                best = x;
            }
        }
        return best;
    }

    /** Streets between all corners, by letting one more corner be passed at a time. */
    int[][] lengths(Set<Integer> closed) {
        int far = 1000;
        int[][] d = new int[w.corners][w.corners];
        for (int a = 0; a < w.corners; a++) {
            for (int b = 0; b < w.corners; b++) {
                d[a][b] = a == b ? 0 : joined(w, closed, a, b) ? 1 : far;
            }
        }
        for (int k = 0; k < w.corners; k++) {
            for (int a = 0; a < w.corners; a++) {
                for (int b = 0; b < w.corners; b++) {
                    d[a][b] = Math.min(d[a][b], d[a][k] + d[k][b]);
                }
            }
        }
        return d;
    }

    int way(int a, int b) {
        if (!hasCorner(a) || !hasCorner(b)) {
            return NO_SUCH;
        }
        int d = lengths(w.closed())[a][b];
        return d >= 1000 ? -1 : d;
    }

    int reach(int a) {
        if (!hasCorner(a)) {
            return NO_SUCH;
        }
        int bits = 0;
        for (int b = 0; b < w.corners; b++) {
            bits |= way(a, b) >= 0 ? 1 << b : 0;
        }
        return bits;
    }

    /** The fewest steps and the least corner, by going through all places that all can have at once. */
    int[] meet(Iterable<Integer> party, Set<Integer> closed) {
        List<Integer> start = new ArrayList<>();
        for (int x : party) {
            start.add(w.names.get(x).home);
        }
        Set<List<Integer>> known = new HashSet<>();
        Set<List<Integer>> front = new HashSet<>();
        front.add(start);
        known.add(start);
        for (int steps = 0; !front.isEmpty(); steps++) {
            int least = 99;
            for (List<Integer> places : front) {
                if (new HashSet<>(places).size() == 1) {
                    least = Math.min(least, places.get(0));
                }
            }
            if (least < 99) {
                return new int[] {steps, least};
            }
            Set<List<Integer>> further = new HashSet<>();
            for (List<Integer> places : front) {
                Deque<List<Integer>> open = new ArrayDeque<>();
                open.add(List.of());
                while (!open.isEmpty()) {
                    List<Integer> part = open.poll();
                    if (part.size() == places.size()) {
                        if (known.add(part)) {
                            further.add(part);
                        }
                        continue;
                    }
                    int here = places.get(part.size());
                    for (int c = 0; c < w.corners; c++) {
                        if (c == here || joined(w, closed, here, c)) {
                            List<Integer> longer = new ArrayList<>(part);
                            longer.add(c);
                            open.add(longer);
                        }
                    }
                }
            }
            front = further;
        }
        return null;
    }

    int soon(int x, int y) {
        if (!hasName(x) || !hasName(y)) {
            return NO_SUCH;
        }
        int[] m = meet(List.of(x, y), w.closed());
        return m == null ? -1 : m[0];
    }

    int gather(int c) {
        if (!hasContract(c)) {
            return NO_SUCH;
        }
        int[] m = meet(w.contracts.get(c), w.closed());
        return m == null ? -1 : m[0];
    }

    int hall(int c) {
        if (!hasContract(c)) {
            return NO_SUCH;
        }
        int[] m = meet(w.contracts.get(c), w.closed());
        return m == null ? -1 : m[1];
    }

    int[] cutBoth(int x, int y) {
        if (!hasName(x) || !hasName(y) || x == y) {
            return new int[] {NO_SUCH, NO_SUCH};
        }
        if (w.names.get(x).home == w.names.get(y).home) {
            return new int[] {-1, -1};
        }
        int best = -1;
        for (int set = 0; set < 1 << w.streets.size(); set++) {
            Set<Integer> shut = new HashSet<>(w.closed());
            boolean allOpen = true;
            for (int s = 0; s < w.streets.size(); s++) {
                if ((set >> s & 1) != 0) {
                    allOpen &= shut.add(s);
                }
            }
            boolean fewer = best < 0 || Integer.bitCount(set) < Integer.bitCount(best);
            if (allOpen && fewer && lengths(shut)[w.names.get(x).home][w.names.get(y).home] >= 1000) {
                best = set;
            }
        }
        return new int[] {Integer.bitCount(best), best};
    }

    int by(int law) {
        if (!w.there || law < 0 || law > 3) {
            return NO_SUCH;
        }
        World v = w.copy();
        v.law = law;
        return signedCount(v);
    }

    int law() {
        if (!w.there) {
            return NO_SUCH;
        }
        int best = 3;
        for (int l = 2; l >= 0; l--) {
            best = by(l) >= by(best) ? l : best;
        }
        return best;
    }

    int needs(int x) {
        if (!hasName(x)) {
            return NO_SUCH;
        }
        int[] signed = new int[41];
        for (int i = 0; i <= 40; i++) {
            World v = w.copy();
            v.names.get(x).ink = i;
            signed[i] = signedCount(v);
        }
        int least = 40;
        for (int i = 40; i >= 0; i--) {
            least = signed[i] == signed[40] ? i : least;
        }
        return least;
    }

    World livingAt(int x, int c) {
        World v = w.copy();
        v.names.get(x).home = c;
        return v;
    }

    int lives(int x) {
        if (!hasName(x)) {
            return NO_SUCH;
        }
        int best = w.corners - 1;
        for (int c = w.corners - 1; c >= 0; c--) {
            best = signedCount(livingAt(x, c)) >= signedCount(livingAt(x, best)) ? c : best;
        }
        return best;
    }

    int dig() {
        if (!w.there) {
            return NO_SUCH;
        }
        int best = -1;
        int most = now.signed.size();
        for (int c = 0; c < w.corners; c++) {
            World v = w.copy();
            v.wells.add(new int[] {c, 20});
            if (signedCount(v) > most) {
                best = c;
                most = signedCount(v);
            }
        }
        return best;
    }

    int shut() {
        if (!w.there) {
            return NO_SUCH;
        }
        int best = -1;
        int most = now.signed.size();
        for (int s = 0; s < w.streets.size(); s++) {
            World v = w.copy();
            v.acts.add(new int[] {1, s, 1, 0});
            if (signedCount(v) > most) {
                best = s;
                most = signedCount(v);
            }
        }
        return best;
    }

    int homes(int slot, int x) {
        if (slot < 0 || slot > 3 || !hasName(x)) {
            return NO_SUCH;
        }
        if (rows[slot] == null) {
            return -6;
        }
        if (rows[slot].length % 2 == 1) {
            return NO_SUCH;
        }
        int bits = (1 << w.corners) - 1;
        for (int i = 0; i < rows[slot].length; i += 2) {
            long s = rows[slot][i];
            long c = rows[slot][i + 1];
            if (s < 0 || s > w.steps || c < 0 || c >= w.corners) {
                return NO_SUCH;
            }
            for (int h = 0; h < w.corners; h++) {
                if (run(livingAt(x, h)).at[(int) s][x] != c) {
                    bits &= ~(1 << h);
                }
            }
        }
        return bits;
    }

    int[] askBoth(int slot, int x) {
        int homes = homes(slot, x);
        if (homes < 0) {
            return new int[] {homes, homes};
        }
        int best = -1;
        int fewest = Integer.bitCount(homes);
        for (int s = 0; s <= w.steps; s++) {
            Map<Integer, Integer> parts = new HashMap<>();
            for (int h = 0; h < w.corners; h++) {
                if ((homes >> h & 1) != 0) {
                    parts.merge(run(livingAt(x, h)).at[s][x], 1, Integer::sum);
                }
            }
            int worst = parts.values().stream().mapToInt(v -> v).max().orElse(0);
            if (worst < fewest) {
                fewest = worst;
                best = s;
            }
        }
        return new int[] {best, fewest};
    }

    int sniffs(int slot) {
        if (slot < 0 || slot > 3 || !w.there) {
            return NO_SUCH;
        }
        if (rows[slot] == null) {
            return -6;
        }
        if (rows[slot].length % 2 == 1) {
            return NO_SUCH;
        }
        int bits = (1 << w.names.size()) - 1;
        for (int i = 0; i < rows[slot].length; i += 2) {
            long m = rows[slot][i];
            long r = rows[slot][i + 1];
            if (m < 2 || m > 9 || r < 0 || r > 8) {
                return NO_SUCH;
            }
            for (int x = 0; x < w.names.size(); x++) {
                if (w.names.get(x).loops % m != r) {
                    bits &= ~(1 << x);
                }
            }
        }
        return bits;
    }

    int next(int slot) {
        int names = sniffs(slot);
        if (names < 0) {
            return names;
        }
        int best = -1;
        int fewest = Integer.bitCount(names);
        for (int m = 2; m <= 9; m++) {
            int[] parts = new int[m];
            int worst = 0;
            for (int x = 0; x < w.names.size(); x++) {
                if ((names >> x & 1) != 0) {
                    worst = Math.max(worst, ++parts[w.names.get(x).loops % m]);
                }
            }
            if (worst < fewest) {
                fewest = worst;
                best = m;
            }
        }
        return best;
    }

    int worth(int set) {
        if (!w.there || set < 0 || set >= 1 << w.names.size()) {
            return NO_SUCH;
        }
        int n = 0;
        for (TreeSet<Integer> c : w.contracts) {
            n += (bits(c) & set) == bits(c) ? 1 : 0;
        }
        return n;
    }

    static long inLowest(BigInteger above, BigInteger below, int what) {
        BigInteger g = above.gcd(below);
        return (what == 0 ? above : below).divide(g).longValueExact();
    }

    int share(int x, int what) {
        if (!hasName(x) || what < 0 || what > 1) {
            return NO_SUCH;
        }
        long[] sums = new long[2];
        orders(x, 0, sums);
        return (int) inLowest(BigInteger.valueOf(sums[0]), BigInteger.valueOf(sums[1]), what);
    }

    private void orders(int x, int come, long[] sums) {
        if (Integer.bitCount(come) == w.names.size()) {
            sums[1]++;
            return;
        }
        for (int y = 0; y < w.names.size(); y++) {
            if ((come >> y & 1) == 0) {
                long before = sums[1];
                orders(x, come | 1 << y, sums);
                if (y == x) {
                    sums[0] += (worth(come | 1 << y) - worth(come)) * (sums[1] - before);
                }
            }
        }
    }

    int gets(int x, int y, int a, int b) {
        if (!hasName(x) || !hasName(y) || x == y || a < 0 || a > 1 || b < 0 || b > 1) {
            return -1000;
        }
        Set<Integer> stays = new HashSet<>();
        if (a == 1) {
            stays.add(x);
        }
        if (b == 1) {
            stays.add(y);
        }
        Outcome o = run(w, Set.of(), stays);
        return 5 * deeds(o, x) - o.goes[x];
    }

    int rests(int x, int y) {
        if (!hasName(x) || !hasName(y) || x == y) {
            return NO_SUCH;
        }
        int bits = 0;
        int[][] pairs = {{0, 0}, {1, 0}, {0, 1}, {1, 1}};
        for (int i = 0; i < 4; i++) {
            int a = pairs[i][0];
            int b = pairs[i][1];
            boolean firstWants = gets(x, y, 1 - a, b) > gets(x, y, a, b);
            boolean otherWants = gets(y, x, 1 - b, a) > gets(y, x, b, a);
            bits |= firstWants || otherWants ? 0 : 1 << i;
        }
        return bits;
    }

    long rain(int contract, int step, int what) {
        BigInteger above = BigInteger.ZERO;
        for (int pattern = 0; pattern < 1 << step + 1; pattern++) {
            Set<Integer> rains = new HashSet<>();
            BigInteger weight = BigInteger.ONE;
            for (int s = 0; s <= step; s++) {
                boolean wet = (pattern >> s & 1) != 0;
                weight = weight.multiply(BigInteger.valueOf(wet ? w.odds : 10 - w.odds));
                if (wet) {
                    rains.add(s);
                }
            }
            int signed = run(w, rains, Set.of()).signedTo(step + 1);
            int value = contract < 0 ? Integer.bitCount(signed) : signed >> contract & 1;
            above = above.add(weight.multiply(BigInteger.valueOf(value)));
        }
        return inLowest(above, BigInteger.TEN.pow(step + 1), what);
    }

    long chance(int contract, int step, int what) {
        if (!hasContract(contract) || step < 0 || step > 7 || step >= w.steps || what < 0 || what > 1) {
            return NO_SUCH;
        }
        return rain(contract, step, what);
    }

    long mean(int step, int what) {
        if (!w.there || step < 0 || step > 7 || step >= w.steps || what < 0 || what > 1) {
            return NO_SUCH;
        }
        return rain(-1, step, what);
    }

    int send(int x, int c, int s) {
        if (!hasName(x) || !hasCorner(c) || s < 0 || s >= w.steps) {
            return NO_SUCH;
        }
        if (w.acts.size() == 30) {
            return -5;
        }
        w.acts.add(new int[] {0, x, c, s});
        settle();
        return now.at[w.steps][x];
    }

    int close(int s, int on) {
        if (!hasStreet(s) || on < 0 || on > 1) {
            return NO_SUCH;
        }
        if (w.acts.size() == 30) {
            return -5;
        }
        int was = street(s, 2);
        w.acts.add(new int[] {1, s, on, 0});
        settle();
        return was;
    }

    int undo() {
        if (!w.there) {
            return NO_SUCH;
        }
        if (w.acts.isEmpty()) {
            return -5;
        }
        w.acts.remove(w.acts.size() - 1);
        settle();
        return w.acts.size();
    }

    int anew() {
        if (!w.there) {
            return NO_SUCH;
        }
        int were = w.acts.size();
        w.acts.clear();
        settle();
        return were;
    }

    Set<Integer> day(int seed) {
        BigInteger x = BigInteger.valueOf(seed);
        Set<Integer> rains = new HashSet<>();
        for (int s = 0; s < w.steps; s++) {
            x = x.multiply(BigInteger.valueOf(1103515245)).add(BigInteger.valueOf(12345));
            x = x.mod(BigInteger.TWO.pow(31));
            if (x.shiftRight(16).intValueExact() % 10 < w.odds) {
                rains.add(s);
            }
        }
        return rains;
    }

    int drawn(int seed, int what) {
        if (!w.there || seed < 0 || seed > 2000000000 || what < 0 || what > 1) {
            return NO_SUCH;
        }
        Set<Integer> rains = day(seed);
        return what == 0 ? bits(rains) : run(w, rains, Set.of()).signedTo(w.steps);
    }

    int luck(int seed, int n, int c) {
        if (seed < 0 || seed > 2000000000 || n < 1 || n > 20 || !hasContract(c)) {
            return NO_SUCH;
        }
        int days = 0;
        for (int i = 0; i < n; i++) {
            days += run(w, day(seed + i), Set.of()).signed.containsKey(c) ? 1 : 0;
        }
        return days;
    }

    int rate(int x, int n) {
        if (!hasName(x) || n < 0 || n > 59) {
            return NO_SUCH;
        }
        if (!w.acts.isEmpty()) {
            return -5;
        }
        int were = w.names.get(x).loops;
        w.names.get(x).loops = n;
        return were;
    }

    int image(int k) {
        if (k < 0 || k > 2) {
            return NO_SUCH;
        }
        images[k] = w.copy();
        return 0;
    }

    int back(int k) {
        if (k < 0 || k > 2) {
            return NO_SUCH;
        }
        if (images[k] == null) {
            return -6;
        }
        w = images[k].copy();
        settle();
        return 0;
    }

    int count(int what) {
        int slots = 0;
        for (long[] row : rows) {
            slots += row == null ? 0 : 1;
        }
        int[] all = {w.corners, w.steps, w.law, w.odds, w.streets.size(), w.wells.size(),
            w.names.size(), w.contracts.size(), w.acts.size(), w.lines(), 0, slots};
        return what < 0 || what > 11 ? -1 : all[what];
    }

    int row(int slot, int width, int n) {
        if (slot < 0 || slot > 3 || width < 0 || width > 3 || n > 60) {
            return NO_SUCH;
        }
        if (n < 0) {
            return -3;
        }
        rows[slot] = new long[n];
        widths[slot] = width;
        return 0;
    }

    int write(int slot, int i, long v) {
        if (slot < 0 || slot > 3) {
            return NO_SUCH;
        }
        if (rows[slot] == null) {
            return -6;
        }
        if (i < 0 || i >= rows[slot].length) {
            return -7;
        }
        int unused = 64 - 8 * (1 << widths[slot]);
        rows[slot][i] = v << unused >> unused;
        return 0;
    }

    int paste(int slot, int i, int to, int k, int n) {
        if (slot < 0 || slot > 3 || to < 0 || to > 3) {
            return NO_SUCH;
        }
        if (rows[slot] == null || rows[to] == null) {
            return -6;
        }
        if (widths[slot] != widths[to]) {
            return -8;
        }
        boolean beyond = (long) i + n > rows[slot].length || (long) k + n > rows[to].length;
        if (i < 0 || k < 0 || n < 0 || beyond) {
            return -7;
        }
        long[] were = rows[slot].clone();
        for (int j = 0; j < n; j++) {
            rows[to][k + j] = were[i + j];
        }
        return 0;
    }

    // ---- how a text is read ----

    /** The fault and its place, or 0 and NONE. */
    static int[] faultOf(String text) {
        return new Text(text).read();
    }

    /** Reads with the rest of the text in hand, word by word. */
    private static final class Text {
        private final String text;
        private int at;
        private int[] fault;

        Text(String text) {
            this.text = text;
        }

        private String peek() {
            while (at < text.length() && " \n".indexOf(text.charAt(at)) >= 0) {
                at++;
            }
            String rest = text.substring(at);
            String word = rest.replaceFirst("(?s)^([a-z]+|[0-9]+|).*$", "$1");
            return word.isEmpty() && !rest.isEmpty() ? rest.substring(0, 1) : word;
        }

        private boolean bad(int what) {
            peek();
            fault = fault == null ? new int[] {what, at} : fault;
            return false;
        }

        private boolean word(String want) {
            if (fault != null || !peek().equals(want)) {
                return bad(1);
            }
            at += want.length();
            return true;
        }

        private int number(int least, int most, Set<Integer> not) {
            String token = peek();
            if (fault != null || !token.matches("[0-9]+")) {
                bad(1);
                return 0;
            }
            BigInteger v = new BigInteger(token);
            boolean in = v.compareTo(BigInteger.valueOf(least)) >= 0
                    && v.compareTo(BigInteger.valueOf(most)) <= 0;
            if (!in || not.contains(v.intValue())) {
                bad(2);
                return 0;
            }
            at += token.length();
            return v.intValue();
        }

        int[] read() {
            int[] n = new int[4];
            int corners = 0;
            boolean told = false;
            while (fault == null && !peek().isEmpty()) {
                String word = peek();
                int kind = List.of("street", "well", "name", "contract").indexOf(word);
                int most = kind < 0 ? 0 : new int[] {12, 4, 5, 6}[kind];
                if (!told) {
                    word("state");
                    word("corners");
                    corners = number(1, 8, Set.of());
                    word("steps");
                    number(1, 20, Set.of());
                    word("law");
                    number(0, 3, Set.of());
                    word("odds");
                    number(0, 10, Set.of());
                    told = true;
                } else if (kind < 0) {
                    bad(1);
                } else if (n[kind]++ == most) {
                    bad(3);
                } else {
                    word(word);
                    line(kind, corners, n[2]);
                }
                word(";");
            }
            return fault == null ? new int[] {0, -1} : fault;
        }

        private void line(int kind, int corners, int names) {
            if (kind == 0) {
                int a = number(0, corners - 1, Set.of());
                word("to");
                number(0, corners - 1, Set.of(a));
            } else if (kind == 1) {
                number(0, corners - 1, Set.of());
                word("feeds");
                number(1, 20, Set.of());
            } else if (kind == 2) {
                word("at");
                number(0, corners - 1, Set.of());
                word("ink");
                number(0, 40, Set.of());
                word("loops");
                number(0, 59, Set.of());
                for (int i = 0; fault == null && peek().equals("walks"); i++) {
                    if (i == 8) {
                        bad(3);
                        return;
                    }
                    word("walks");
                    number(0, corners - 1, Set.of());
                }
            } else {
                Set<Integer> party = new HashSet<>();
                for (int i = 0; fault == null && (i < 2 || i == 2 && peek().matches("[0-9]+")); i++) {
                    party.add(number(0, names - 1, party));
                }
            }
        }
    }
}
