import java.math.BigInteger;
import java.util.ArrayList;
import java.util.Arrays;
import java.util.HashMap;
import java.util.List;
import java.util.Map;
import java.util.TreeSet;

/**
 * The document once more, as slow and plain as can be, and by other means than the class that it checks:
 * YARDS are looked at one by one, ways grow from the front with all their STEPS, fractions are BigIntegers.
 */
final class Plain {
    static final int NONE = -1;
    static final int[] DOWN = {-1, 0, 1, 0, 0};
    static final int[] RIGHT = {0, 1, 0, -1, 0};

    static final class PlainWalk {
        int yard;
        int hour;
        int strength;
        String steps;
    }

    static final class Kept {
        List<int[]> ropes;
        PlainWalk[] walks;
        int err;
        String fog;
    }

    String text = "";
    String[] plan = {"."};
    String fog = "";
    String rule = "";
    int err = 0;
    List<int[]> ropes = new ArrayList<>();
    PlainWalk[] walks = new PlainWalk[4];
    Kept[] kept = new Kept[2];
    List<Long> row = new ArrayList<>();

    // ---- small things

    int wide() {
        return plan[0].length();
    }

    int size() {
        return wide() * plan.length;
    }

    boolean exists(int y) {
        return y >= 0 && y < size();
    }

    char cell(int y) {
        return plan[y / wide()].charAt(y % wide());
    }

    boolean street(int y) {
        return exists(y) && cell(y) != '#';
    }

    int strengthAt(int y) {
        return Character.isDigit(cell(y)) ? cell(y) - '0' : 0;
    }

    int thickness(int hour) {
        return fog.isEmpty() ? 0 : fog.charAt(hour % fog.length()) - '0';
    }

    boolean okHour(int h) {
        return h >= 0 && h <= 999;
    }

    boolean okStrength(int s) {
        return s >= -1 && s <= 9;
    }

    int step(int y, int d) {
        int r = y / wide() + DOWN[d];
        int c = y % wide() + RIGHT[d];
        if (r < 0 || c < 0 || r >= plan.length || c >= wide() || plan[r].charAt(c) == '#') {
            return y;
        }
        return r * wide() + c;
    }

    TreeSet<Integer> lineOf(int y, int n) {
        TreeSet<Integer> found = new TreeSet<>();
        for (int d = 0; d < 4; d++) {
            int at = y;
            for (int k = 0; k < n; k++) {
                int next = step(at, d);
                if (next == at) {
                    break;
                }
                found.add(next);
                at = next;
            }
        }
        return found;
    }

    TreeSet<Integer> litSet(int f) {
        TreeSet<Integer> found = new TreeSet<>();
        for (int y = 0; y < size(); y++) {
            if (street(y) && strengthAt(y) > f) {
                found.add(y);
                found.addAll(lineOf(y, strengthAt(y) - f));
            }
        }
        return found;
    }

    TreeSet<Integer> seesSet(int y, int f, int s) {
        TreeSet<Integer> found = new TreeSet<>();
        if (s == -1) {
            return found;
        }
        if (s - f >= 1) {
            found.addAll(lineOf(y, s - f));
        }
        TreeSet<Integer> lit = litSet(f);
        for (int z : lineOf(y, 9)) {
            if (lit.contains(z)) {
                found.add(z);
            }
        }
        return found;
    }

    int owes(int y, int hour, int s) {
        if (s == -1) {
            return 0;
        }
        int f = thickness(hour);
        int value = seesSet(y, f, s).size();
        if (!rule.isEmpty()) {
            value = new Reader(rule, new int[] {value, s, f, hour, litSet(f).contains(y) ? 1 : 0, y}).whole();
        }
        return Math.max(0, Math.min(999, value));
    }

    boolean onOneRope(int a, int b) {
        for (int[] rope : ropes) {
            if (ropeYards(rope).contains(a) && ropeYards(rope).contains(b)) {
                return true;
            }
        }
        return false;
    }

    TreeSet<Integer> ropeYards(int[] rope) {
        TreeSet<Integer> found = new TreeSet<>();
        int lo = Math.min(rope[0], rope[1]);
        int hi = Math.max(rope[0], rope[1]);
        int by = lo / wide() == hi / wide() ? 1 : wide();
        for (int y = lo; y <= hi; y += by) {
            found.add(y);
        }
        return found;
    }

    boolean isSafe(int y, int d, int f, int s) {
        int to = step(y, d);
        return to == y || s == -1 || seesSet(y, f, s).contains(to) || onOneRope(y, to);
    }

    void tellSet(TreeSet<Integer> set) {
        long low = 0;
        long high = 0;
        for (int y : set) {
            if (y < 18) {
                low |= 1L << y;
            } else {
                high |= 1L << (y - 18);
            }
        }
        tells(low, high);
    }

    void tells(long... all) {
        row = new ArrayList<>();
        for (long x : all) {
            row.add(x);
        }
    }

    void addSteps(String steps) {
        for (int k = 0; k < steps.length() && k < 10; k++) {
            row.add((long) (steps.charAt(k) - '0'));
        }
    }

    // ---- the town

    int sign(int v) {
        if (text.length() > 76) {
            return NONE;
        }
        text += "" + (char) (v >>> 24) + (char) (v >>> 16 & 255) + (char) (v >>> 8 & 255) + (char) (v & 255);
        return text.length();
    }

    boolean end(int n) {
        if (n < 0 || n > text.length()) {
            return false;
        }
        text = text.substring(0, n);
        return true;
    }

    String takeText() {
        String taken = text;
        text = "";
        return taken;
    }

    /** If a text could be the beginning of a town (or, whole, be one). */
    static boolean townLike(String t, boolean whole) {
        String[] rows = t.split("/", -1);
        if (rows.length > 6 && !(rows.length == 7 && rows[6].isEmpty() && !whole)) {
            return false;
        }
        for (int r = 0; r < rows.length; r++) {
            boolean last = r == rows.length - 1;
            if (!rows[r].matches("[.#1-9]{0,6}")) {
                return false;
            }
            if (rows[r].length() > rows[0].length()) {
                return false;
            }
            if ((!last || whole) && (rows[r].isEmpty() || rows[r].length() != rows[0].length())) {
                return false;
            }
        }
        return true;
    }

    int town() {
        String t = takeText();
        for (int p = 0; p < t.length(); p++) {
            if (!townLike(t.substring(0, p + 1), false)) {
                return -1 - p;
            }
        }
        if (!townLike(t, true)) {
            return -1 - t.length();
        }
        plan = t.split("/", -1);
        ropes.clear();
        walks = new PlainWalk[4];
        kept = new Kept[2];
        return size();
    }

    int fog() {
        String t = takeText();
        for (int p = 0; p < t.length(); p++) {
            if (p == 24 || !Character.isDigit(t.charAt(p))) {
                return -1 - p;
            }
        }
        fog = t;
        return fog.length();
    }

    int rule() {
        String t = takeText();
        if (!t.isEmpty()) {
            Reader reader = new Reader(t.length() > 40 ? t.substring(0, 40) : t, new int[6]);
            reader.whole();
            if (reader.fault >= 0 && reader.fault < Math.min(40, t.length())) {
                return -1 - reader.fault;
            }
            if (t.length() > 40) {
                return -41;
            }
            if (reader.fault >= 0) {
                return -1 - reader.fault;
            }
        }
        rule = t;
        return 0;
    }

    int yard(int y) {
        return !exists(y) ? NONE : cell(y) == '#' ? 10 : strengthAt(y);
    }

    int lamp(int y, int v) {
        if (!street(y) || v < 0 || v > 9) {
            return NONE;
        }
        int before = strengthAt(y);
        setCell(y, v == 0 ? '.' : (char) ('0' + v));
        return before;
    }

    void setCell(int y, char c) {
        StringBuilder changed = new StringBuilder(plan[y / wide()]);
        changed.setCharAt(y % wide(), c);
        plan = plan.clone();
        plan[y / plan[0].length()] = changed.toString();
    }

    int err(int v) {
        if (v < 0 || v > 9) {
            return NONE;
        }
        int before = err;
        err = v;
        return before;
    }

    int thick(int hour) {
        return okHour(hour) ? thickness(hour) : NONE;
    }

    int sheet(int kind, int n, int f, int step) {
        if (kind < 0 || kind > 3 || n > 24) {
            return NONE;
        }
        if (kind == 3) {
            fog = "";
            return -3;
        }
        if (n < 0) {
            return -2;
        }
        StringBuilder made = new StringBuilder();
        int sum = 0;
        for (int k = 0; k < n; k++) {
            int v = f + k * step;
            v = kind == 0 ? (byte) v : kind == 1 ? (short) v : v;
            v = v < 0 ? 0 : v > 9 ? 9 : v;
            made.append(v);
            sum += v;
        }
        fog = made.toString();
        return sum;
    }

    boolean canRope(int a, int b) {
        boolean aligned = a / wide() == b / wide() || a % wide() == b % wide();
        if (a == b || !aligned) {
            return false;
        }
        for (int y : ropeYards(new int[] {a, b})) {
            if (!street(y)) {
                return false;
            }
        }
        return true;
    }

    int rope(int a, int b) {
        if (ropes.size() == 6) {
            return -3;
        }
        if (!street(a) || !street(b)) {
            return NONE;
        }
        if (!canRope(a, b)) {
            return -2;
        }
        ropes.add(new int[] {a, b});
        return ropes.size();
    }

    int unrope() {
        if (ropes.isEmpty()) {
            return NONE;
        }
        ropes.remove(ropes.size() - 1);
        return ropes.size();
    }

    // ---- what is seen and owed

    int lit(int hour) {
        if (!okHour(hour)) {
            return NONE;
        }
        tellSet(litSet(thickness(hour)));
        return litSet(thickness(hour)).size();
    }

    boolean ok(int y, int hour, int s) {
        return street(y) && okHour(hour) && okStrength(s);
    }

    int sees(int y, int hour, int s) {
        if (!ok(y, hour, s)) {
            return NONE;
        }
        tellSet(seesSet(y, thickness(hour), s));
        return seesSet(y, thickness(hour), s).size();
    }

    int owed(int y, int hour, int s) {
        return ok(y, hour, s) ? owes(y, hour, s) : NONE;
    }

    int seen(int y, int hour, int s) {
        if (!ok(y, hour, s)) {
            return NONE;
        }
        TreeSet<Integer> from = new TreeSet<>();
        for (int z = 0; z < size(); z++) {
            if (street(z) && seesSet(z, thickness(hour), s).contains(y)) {
                from.add(z);
            }
        }
        tellSet(from);
        return from.size();
    }

    int dearest(int hour, int s) {
        if (!okHour(hour) || !okStrength(s)) {
            return NONE;
        }
        int best = -2;
        for (int y = size() - 1; y >= 0; y--) {
            if (street(y) && (best == -2 || owes(y, hour, s) >= owes(best, hour, s))) {
                best = y;
            }
        }
        if (best >= 0) {
            tells(owes(best, hour, s));
        }
        return best;
    }

    int light(int hour, int v) {
        if (!okHour(hour) || v < 1 || v > 9) {
            return NONE;
        }
        int best = -2;
        int most = -1;
        for (int y = size() - 1; y >= 0; y--) {
            if (cell(y) == '.') {
                setCell(y, (char) ('0' + v));
                int many = litSet(thickness(hour)).size();
                setCell(y, '.');
                if (many >= most) {
                    most = many;
                    best = y;
                }
            }
        }
        if (best >= 0) {
            tells(most);
        }
        return best;
    }

    int needs(int from, int to, int hour) {
        if (!street(from) || !street(to) || from == to || !okHour(hour)) {
            return NONE;
        }
        int least = -2;
        for (int s = 9; s >= 0; s--) {
            if (seesSet(from, thickness(hour), s).contains(to)) {
                least = s;
            }
        }
        return least;
    }

    // ---- walks

    boolean isTold(int i) {
        return i >= 0 && i < 4 && walks[i] != null;
    }

    /** The YARD of a WALK in an HOUR, -2 if it is not on the streets. */
    int where(PlainWalk w, int hour) {
        if (hour < w.hour || hour > w.hour + w.steps.length()) {
            return -2;
        }
        int y = w.yard;
        for (int h = w.hour; h < hour; h++) {
            y = step(y, "urdlw".indexOf(w.steps.charAt(h - w.hour)));
        }
        return y;
    }

    int last(PlainWalk w) {
        return w.hour + w.steps.length();
    }

    int walk(int i, int y, int hour, int s) {
        String t = takeText();
        if (i < 0 || i > 3 || !ok(y, hour, s)) {
            return -100;
        }
        for (int p = 0; p < t.length(); p++) {
            if (p == 30 || "urdlw".indexOf(t.charAt(p)) < 0) {
                return -1 - p;
            }
        }
        walks[i] = made(y, hour, s, t);
        return where(walks[i], last(walks[i]));
    }

    PlainWalk made(int y, int hour, int s, String steps) {
        PlainWalk w = new PlainWalk();
        w.yard = y;
        w.hour = hour;
        w.strength = s;
        w.steps = steps;
        return w;
    }

    boolean drop(int i) {
        if (!isTold(i)) {
            return false;
        }
        walks[i] = null;
        return true;
    }

    int at(int i, int hour) {
        return isTold(i) && okHour(hour) ? where(walks[i], hour) : NONE;
    }

    int owesAll(PlainWalk w, int s) {
        int sum = 0;
        for (int h = w.hour; h <= last(w); h++) {
            sum += owes(where(w, h), h, s);
        }
        return sum;
    }

    int risky(PlainWalk w, int s) {
        int many = 0;
        for (int h = w.hour; h < last(w); h++) {
            int d = "urdlw".indexOf(w.steps.charAt(h - w.hour));
            many += isSafe(where(w, h), d, thickness(h), s) ? 0 : 1;
        }
        return many;
    }

    int bill(int i) {
        if (!isTold(i)) {
            return NONE;
        }
        tells(walks[i].steps.length() + 1, risky(walks[i], walks[i].strength));
        return owesAll(walks[i], walks[i].strength);
    }

    int saw(int i) {
        if (!isTold(i)) {
            return NONE;
        }
        TreeSet<Integer> all = new TreeSet<>();
        for (int h = walks[i].hour; h <= last(walks[i]); h++) {
            all.addAll(seesSet(where(walks[i], h), thickness(h), walks[i].strength));
        }
        tellSet(all);
        return all.size();
    }

    int dims(int i) {
        if (!isTold(i)) {
            return NONE;
        }
        for (int s = 0; s <= 9; s++) {
            if (risky(walks[i], s) == 0) {
                tells(owesAll(walks[i], s));
                return s;
            }
        }
        return -2;
    }

    int adopt(int i, int from, int to, int hour, int s) {
        if (i < 0 || i > 3 || !ok(from, hour, s) || !street(to)) {
            return NONE;
        }
        String path = safePath(from, to, hour, s, -1);
        if (path == null) {
            return -2;
        }
        StringBuilder steps = new StringBuilder();
        for (char c : path.toCharArray()) {
            steps.append("urdlw".charAt(c - '0'));
        }
        walks[i] = made(from, hour, s, steps.toString());
        return path.length();
    }

    int hidden(int y, int hour, int n) {
        if (!street(y) || !okHour(hour) || n < 0 || n > 24) {
            return NONE;
        }
        int bits = 0;
        for (int k = 0; k < n; k++) {
            boolean free = true;
            for (PlainWalk w : walks) {
                if (w != null && where(w, hour + k) != -2) {
                    int p = where(w, hour + k);
                    free &= p != y && !seesSet(p, thickness(hour + k), w.strength).contains(y);
                }
            }
            bits += free ? 1 << k : 0;
        }
        return bits;
    }

    int clash(int i, int j) {
        for (int h = 0; h < 1100; h++) {
            if (where(walks[i], h) != -2 && where(walks[i], h) == where(walks[j], h)) {
                return h;
            }
        }
        return -2;
    }

    int guilt(int i, int j, int h) {
        boolean a = sawOther(walks[i], walks[j], h - 1);
        boolean b = sawOther(walks[j], walks[i], h - 1);
        int bits = 0;
        if (a || !b) {
            bits |= 1 << i;
        }
        if (b || !a) {
            bits |= 1 << j;
        }
        return bits;
    }

    boolean sawOther(PlainWalk a, PlainWalk b, int h) {
        return where(a, h) != -2 && where(b, h) != -2
                && seesSet(where(a, h), thickness(h), a.strength).contains(where(b, h));
    }

    int hit(int i, int j) {
        if (i == j || !isTold(i) || !isTold(j)) {
            return NONE;
        }
        int h = clash(i, j);
        if (h >= 0) {
            tells(where(walks[i], h), guilt(i, j, h));
        }
        return h;
    }

    int brush(int i, int j) {
        if (i == j || !isTold(i) || !isTold(j)) {
            return NONE;
        }
        for (int h = 0; h < 1100; h++) {
            int a = where(walks[i], h);
            int b = where(walks[j], h);
            if (a >= 0 && b >= 0 && a != b && where(walks[i], h + 1) == b && where(walks[j], h + 1) == a) {
                return h;
            }
        }
        return -2;
    }

    int hits() {
        int pairs = 0;
        int bits = 0;
        for (int i = 0; i < 4; i++) {
            for (int j = 0; j < i; j++) {
                if (isTold(i) && isTold(j) && clash(i, j) >= 0) {
                    pairs++;
                    bits |= guilt(i, j, clash(i, j));
                }
            }
        }
        tells(bits);
        return pairs;
    }

    int takings(int hour) {
        if (!okHour(hour)) {
            return NONE;
        }
        int sum = 0;
        int many = 0;
        for (PlainWalk w : walks) {
            if (w != null && where(w, hour) != -2) {
                many++;
                sum += owes(where(w, hour), hour, w.strength);
            }
        }
        tells(many);
        return sum;
    }

    int fee(int n) {
        if (n < 0 || n > 99999) {
            return NONE;
        }
        int sum = 0;
        for (PlainWalk w : walks) {
            sum += w == null ? 0 : owesAll(w, w.strength);
        }
        if (n == 0) {
            return 1;
        }
        if (sum == 0) {
            return -2;
        }
        int k = (n + sum - 1) / sum;
        return k > 999 ? -2 : k;
    }

    // ---- ways

    /** The least row of the fewest STEPS, or null; s below -1: any STEP may be taken; steadyFog -1: FOG. */
    String safePath(int from, int to, int hour, int s, int steadyFog) {
        Map<Integer, String> here = new HashMap<>();
        here.put(from, "");
        for (int t = 0; t <= 24; t++) {
            if (here.containsKey(to)) {
                return here.get(to);
            }
            int f = steadyFog >= 0 ? steadyFog : thickness(hour + t);
            Map<Integer, String> next = new HashMap<>();
            for (int y : here.keySet()) {
                for (int d = 0; d <= 4; d++) {
                    if (s < -1 || isSafe(y, d, f, s)) {
                        String path = here.get(y) + d;
                        next.merge(step(y, d), path, (a, b) -> a.compareTo(b) <= 0 ? a : b);
                    }
                }
            }
            here = next;
        }
        return null;
    }

    int way(int from, int to) {
        if (!street(from) || !street(to)) {
            return NONE;
        }
        String path = safePath(from, to, 0, -5, 0);
        if (path == null) {
            return -2;
        }
        tells();
        addSteps(path);
        return path.length();
    }

    static final class Offer {
        int cost;
        String path;

        Offer(int cost, String path) {
            this.cost = cost;
            this.path = path;
        }

        static Offer better(Offer a, Offer b) {
            if (a == null || b == null) {
                return a == null ? b : a;
            }
            if (a.cost != b.cost) {
                return a.cost < b.cost ? a : b;
            }
            if (a.path.length() != b.path.length()) {
                return a.path.length() < b.path.length() ? a : b;
            }
            return a.path.compareTo(b.path) <= 0 ? a : b;
        }
    }

    Offer cheapestOffer(int from, int to, int hour, int s, int n, boolean any) {
        Map<Integer, Offer> here = new HashMap<>();
        here.put(from, new Offer(owes(from, hour, s), ""));
        Offer best = null;
        int[][] owing = new int[n + 1][size()];
        for (int[] line : owing) {
            Arrays.fill(line, -1);
        }
        for (int t = 0; t <= n; t++) {
            best = Offer.better(best, here.get(to));
            here.remove(to);
            if (t == n) {
                break;
            }
            Map<Integer, Offer> next = new HashMap<>();
            for (int y : here.keySet()) {
                for (int d = 0; d <= 4; d++) {
                    if (any || isSafe(y, d, thickness(hour + t), s)) {
                        int z = step(y, d);
                        if (owing[t + 1][z] < 0) {
                            owing[t + 1][z] = owes(z, hour + t + 1, s);
                        }
                        Offer offer = new Offer(here.get(y).cost + owing[t + 1][z], here.get(y).path + d);
                        next.merge(z, offer, Offer::better);
                    }
                }
            }
            here = next;
        }
        return best;
    }

    int cheapest(int from, int to, int hour, int s, int n) {
        if (!ok(from, hour, s) || !street(to) || n < 0 || n > 24) {
            return NONE;
        }
        Offer best = cheapestOffer(from, to, hour, s, n, true);
        if (best == null) {
            return -2;
        }
        tells(best.path.length());
        addSteps(best.path);
        return best.cost;
    }

    int safe(int from, int to, int hour, int s) {
        if (!ok(from, hour, s) || !street(to)) {
            return NONE;
        }
        String path = safePath(from, to, hour, s, -1);
        if (path == null) {
            return -2;
        }
        tells();
        addSteps(path);
        return path.length();
    }

    int buys(int from, int to, int hour, int n, int purse) {
        if (!ok(from, hour, 0) || !street(to) || n < 0 || n > 24 || purse < 0 || purse > 9999) {
            return NONE;
        }
        for (int s = 0; s <= 9; s++) {
            Offer best = cheapestOffer(from, to, hour, s, n, false);
            if (best != null && best.cost <= purse) {
                tells(best.cost);
                return s;
            }
        }
        return -2;
    }

    TreeSet<Integer> reachSet(int from, int hour, int s, int n) {
        TreeSet<Integer> here = new TreeSet<>();
        here.add(from);
        for (int t = 0; t < n; t++) {
            for (int y : new ArrayList<>(here)) {
                for (int d = 0; d < 4; d++) {
                    if (isSafe(y, d, thickness(hour + t), s)) {
                        here.add(step(y, d));
                    }
                }
            }
        }
        return here;
    }

    int reach(int from, int hour, int s, int n) {
        if (!ok(from, hour, s) || n < 0 || n > 24) {
            return NONE;
        }
        tellSet(reachSet(from, hour, s, n));
        return reachSet(from, hour, s, n).size();
    }

    int tour(int from, int hour, int s, int n, int list) {
        if (!ok(from, hour, s) || n < 0 || n > 4) {
            return NONE;
        }
        TreeSet<Integer> wanted = new TreeSet<>();
        for (int k = 0; k < n; k++) {
            int y = list >> 6 * k & 63;
            if (!street(y)) {
                return NONE;
            }
            wanted.add(y);
        }
        // A state is where one is, then the YARDS of the list in the order in which one was in them, as signs.
        TreeSet<String> states = new TreeSet<>();
        states.add((char) (from + 64) + (wanted.contains(from) ? "" + (char) (from + 64) : ""));
        for (int t = 0; t <= 24; t++) {
            String least = null;
            for (String state : states) {
                if (state.length() == wanted.size() + 1) {
                    String order = state.substring(1);
                    least = least == null || order.compareTo(least) < 0 ? order : least;
                }
            }
            if (least != null) {
                tells();
                for (char c : least.toCharArray()) {
                    row.add((long) (c - 64));
                }
                return t;
            }
            TreeSet<String> next = new TreeSet<>();
            for (String state : states) {
                int y = state.charAt(0) - 64;
                for (int d = 0; d <= 4; d++) {
                    if (isSafe(y, d, thickness(hour + t), s)) {
                        int z = step(y, d);
                        String order = state.substring(1);
                        boolean first = wanted.contains(z) && order.indexOf((char) (z + 64)) < 0;
                        next.add((char) (z + 64) + order + (first ? "" + (char) (z + 64) : ""));
                    }
                }
            }
            states = next;
        }
        return -2;
    }

    int bears(int from, int to, int s) {
        if (!ok(from, 0, s) || !street(to)) {
            return NONE;
        }
        for (int f = 9; f >= 0; f--) {
            String path = safePath(from, to, 0, s, f);
            if (path != null) {
                tells(path.length());
                return f;
            }
        }
        return -2;
    }

    int waits(int from, int to, int hour, int s) {
        if (!ok(from, hour, s) || !street(to)) {
            return NONE;
        }
        int fewest = 99;
        int latest = -2;
        for (int k = 23; k >= 0; k--) {
            String path = safePath(from, to, hour + k, s, -1);
            if (path != null && path.length() < fewest) {
                fewest = path.length();
                latest = k;
            }
        }
        if (latest >= 0) {
            tells(fewest);
        }
        return latest;
    }

    // ---- chances

    static final class Part {
        final BigInteger upper;
        final BigInteger lower;

        Part(BigInteger upper, BigInteger lower) {
            BigInteger divisor = upper.gcd(lower);
            this.upper = upper.divide(divisor);
            this.lower = lower.divide(divisor);
        }

        static Part of(long upper, long lower) {
            return new Part(BigInteger.valueOf(upper), BigInteger.valueOf(lower));
        }

        Part plus(Part o) {
            return new Part(upper.multiply(o.lower).add(o.upper.multiply(lower)), lower.multiply(o.lower));
        }

        Part times(Part o) {
            return new Part(upper.multiply(o.upper), lower.multiply(o.lower));
        }

        int compareTo(Part o) {
            return upper.multiply(o.lower).compareTo(o.upper.multiply(lower));
        }
    }

    Map<Integer, Part> memo = new HashMap<>();
    Map<Integer, Part> meanMemo = new HashMap<>();

    Part goesWell(int y, int d, int hour, int s) {
        return Part.of(isSafe(y, d, thickness(hour), s) ? 10 : 10 - err, 10);
    }

    Part goesBadly(int y, int d, int hour, int s) {
        return Part.of(isSafe(y, d, thickness(hour), s) ? 0 : err, 10);
    }

    Part chanceBy(int y, int d, int to, int hour, int s, int left) {
        Part good = goesWell(y, d, hour, s).times(chanceFrom(step(y, d), to, hour + 1, s, left - 1));
        return good.plus(goesBadly(y, d, hour, s).times(chanceFrom(y, to, hour + 1, s, left - 1)));
    }

    Part chanceFrom(int y, int to, int hour, int s, int left) {
        if (y == to || left == 0) {
            return Part.of(y == to ? 1 : 0, 1);
        }
        int key = y * 100 + left;
        if (!memo.containsKey(key)) {
            Part best = Part.of(0, 1);
            for (int d = 0; d <= 4; d++) {
                Part p = chanceBy(y, d, to, hour, s, left);
                best = p.compareTo(best) > 0 ? p : best;
            }
            memo.put(key, best);
        }
        return memo.get(key);
    }

    int chance(int from, int to, int hour, int s, int n) {
        if (!ok(from, hour, s) || !street(to) || n < 0 || n > 8) {
            return NONE;
        }
        memo.clear();
        Part best = chanceFrom(from, to, hour, s, n);
        int first = 4;
        if (from != to && n > 0) {
            for (int d = 4; d >= 0; d--) {
                if (chanceBy(from, d, to, hour, s, n).compareTo(best) == 0) {
                    first = d;
                }
            }
        }
        tells(best.upper.longValueExact(), best.lower.longValueExact(), first);
        return 0;
    }

    Part likelyFrom(PlainWalk w, int k, int y, Map<Integer, Part> known) {
        if (k == w.steps.length()) {
            return Part.of(y == where(w, last(w)) ? 1 : 0, 1);
        }
        int key = k * 100 + y;
        if (!known.containsKey(key)) {
            int d = "urdlw".indexOf(w.steps.charAt(k));
            Part good = goesWell(y, d, w.hour + k, w.strength).times(likelyFrom(w, k + 1, step(y, d), known));
            Part bad = goesBadly(y, d, w.hour + k, w.strength).times(likelyFrom(w, k + 1, y, known));
            known.put(key, good.plus(bad));
        }
        return known.get(key);
    }

    int likely(int i) {
        if (!isTold(i)) {
            return NONE;
        }
        if (walks[i].steps.length() > 15) {
            return -2;
        }
        Part p = likelyFrom(walks[i], 0, walks[i].yard, new HashMap<>());
        tells(p.upper.longValueExact(), p.lower.longValueExact());
        return 0;
    }

    Part meanFrom(int y, int to, int hour, int s, int left) {
        if (y == to || left == 0) {
            return Part.of(0, 1);
        }
        int key = y * 100 + left;
        if (!meanMemo.containsKey(key)) {
            Part best = null;
            Part goal = chanceFrom(y, to, hour, s, left);
            for (int d = 0; d <= 4; d++) {
                if (chanceBy(y, d, to, hour, s, left).compareTo(goal) == 0) {
                    Part there = Part.of(owes(step(y, d), hour + 1, s), 1)
                            .plus(meanFrom(step(y, d), to, hour + 1, s, left - 1));
                    Part here = Part.of(owes(y, hour + 1, s), 1).plus(meanFrom(y, to, hour + 1, s, left - 1));
                    Part p = goesWell(y, d, hour, s).times(there).plus(goesBadly(y, d, hour, s).times(here));
                    best = best == null || p.compareTo(best) < 0 ? p : best;
                }
            }
            meanMemo.put(key, best);
        }
        return meanMemo.get(key);
    }

    int mean(int from, int to, int hour, int s, int n) {
        if (!ok(from, hour, s) || !street(to) || n < 0 || n > 6) {
            return NONE;
        }
        memo.clear();
        meanMemo.clear();
        Part p = meanFrom(from, to, hour, s, n);
        tells(p.upper.longValueExact(), p.lower.longValueExact());
        return 0;
    }

    // ---- ropes, two who meet

    int best(int from, int hour, int s, int n) {
        if (!ok(from, hour, s) || n < 0 || n > 24) {
            return NONE;
        }
        if (ropes.size() == 6) {
            return -2;
        }
        int most = -2;
        for (int a = 0; a < size(); a++) {
            for (int b = a + 1; b < size(); b++) {
                if (canRope(a, b)) {
                    ropes.add(new int[] {a, b});
                    int many = reachSet(from, hour, s, n).size();
                    ropes.remove(ropes.size() - 1);
                    if (many > most) {
                        most = many;
                        tells(a, b);
                    }
                }
            }
        }
        return most;
    }

    int meet(int one, int other, int hour, int s, int otherS) {
        if (!ok(one, hour, s) || !ok(other, hour, otherS)) {
            return NONE;
        }
        for (int t = 0; t <= 24; t++) {
            TreeSet<Integer> common = reachSet(one, hour, s, t);
            common.retainAll(reachSet(other, hour, otherS, t));
            if (!common.isEmpty()) {
                tells(common.first());
                return t;
            }
        }
        return -2;
    }

    int owesOn(String path, int from, int hour, int s) {
        int y = from;
        int sum = owes(y, hour, s);
        for (int k = 0; k < path.length(); k++) {
            y = step(y, path.charAt(k) - '0');
            sum += owes(y, hour + k + 1, s);
        }
        return sum;
    }

    int lead(int from, int to, int hour, int s, int wage) {
        if (!ok(from, hour, s) || !street(to) || wage < 0 || wage > 99) {
            return NONE;
        }
        String led = safePath(from, to, 0, -5, 0);
        if (led == null) {
            return -2;
        }
        String alone = safePath(from, to, hour, s, -1);
        tells(alone == null ? -2 : owesOn(alone, from, hour, s));
        return owesOn(led, from, hour, s) + wage * led.length();
    }

    // ---- kept

    boolean keep(int i) {
        if (i < 0 || i > 1) {
            return false;
        }
        kept[i] = new Kept();
        kept[i].ropes = new ArrayList<>(ropes);
        kept[i].walks = walks.clone();
        kept[i].err = err;
        kept[i].fog = fog;
        return true;
    }

    boolean again(int i) {
        if (i < 0 || i > 1 || kept[i] == null) {
            return false;
        }
        ropes = new ArrayList<>(kept[i].ropes);
        walks = kept[i].walks.clone();
        err = kept[i].err;
        fog = kept[i].fog;
        return true;
    }

    int count(int what) {
        int streets = 0;
        int lamps = 0;
        for (int y = 0; y < size(); y++) {
            streets += street(y) ? 1 : 0;
            lamps += street(y) && strengthAt(y) > 0 ? 1 : 0;
        }
        int bits = 0;
        for (int i = 0; i < 4; i++) {
            bits += walks[i] != null ? 1 << i : 0;
        }
        int[] all = {size(), wide(), streets, lamps, ropes.size(), bits, fog.length(), row.size(), text.length()};
        return what >= 0 && what < all.length ? all[what] : NONE;
    }

    /** THE RULE read from the left by what each kind of EXPRESSION is made of; fault: the first wrong sign. */
    static final class Reader {
        final String t;
        final int[] values;
        int p = 0;
        int fault = -1;

        Reader(String t, int[] values) {
            this.t = t;
            this.values = values;
        }

        char next() {
            return p < t.length() ? t.charAt(p) : '\uffff';
        }

        int wrong() {
            if (fault < 0) {
                fault = p;
            }
            p = t.length() + 1;
            return 0;
        }

        int whole() {
            int value = comparison(0);
            if (fault < 0 && p != t.length()) {
                wrong();
            }
            return value;
        }

        int comparison(int depth) {
            int a = sum(depth);
            char c = next();
            if (c == '<' || c == '>' || c == '=') {
                p++;
                int b = sum(depth);
                return (c == '<' ? a < b : c == '>' ? a > b : a == b) ? 1 : 0;
            }
            return a;
        }

        int sum(int depth) {
            int a = product(depth);
            while (next() == '+' || next() == '-') {
                boolean minus = next() == '-';
                p++;
                int b = product(depth);
                a = minus ? a - b : a + b;
            }
            return a;
        }

        int product(int depth) {
            int a = signed(depth);
            while (next() == '*' || next() == '/') {
                boolean by = next() == '/';
                p++;
                int b = signed(depth);
                a = by ? (b == 0 ? 0 : a / b) : a * b;
            }
            return a;
        }

        int signed(int depth) {
            if (next() == '-') {
                p++;
                return -signed(depth);
            }
            return thing(depth);
        }

        int thing(int depth) {
            char c = next();
            if (c >= '0' && c <= '9') {
                int value = 0;
                for (int k = 0; k < 3 && next() >= '0' && next() <= '9'; k++) {
                    value = value * 10 + next() - '0';
                    p++;
                }
                return value;
            }
            int named = "ysfhlc".indexOf(c);
            if (named >= 0) {
                p++;
                return values[named];
            }
            if (c == '(' && depth < 4) {
                p++;
                int value = comparison(depth + 1);
                if (next() != ')') {
                    return wrong();
                }
                p++;
                return value;
            }
            return wrong();
        }
    }
}
