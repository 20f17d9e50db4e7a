import java.util.NoSuchElementException;

/**
 * A harbour town in fog, in which whoever has light must pay for the yards he sees.
 *
 * <p>Sets of YARDS are held as the bits of a long (36 YARDS at most), so that a whole HOUR of walking
 * is a handful of shifts. All tables are made once, by the constructor, and used again by every call.
 */
public final class FinedBySight {
    public static final int NONE = -1;

    private static final int NOT_SO = -2;
    private static final int FULL = -3;
    private static final int MISSING = -3;
    private static final int NO_SUCH_WALK = -100;

    private static final int MOST_SIGNS = 80;
    private static final int MOST_SIDE = 6;
    private static final int MOST_YARDS = 36;
    private static final int MOST_FOG = 24;
    private static final int MOST_RULE = 40;
    private static final int MOST_DEPTH = 4;
    private static final int MOST_ROPES = 6;
    private static final int MOST_WALKS = 4;
    private static final int MOST_STEPS = 30;
    private static final int MOST_LIKELY = 15;
    private static final int MOST_KEPT = 2;
    private static final int MOST_ROW = 12;
    private static final int MOST_LISTED = 4;

    private static final int LAST_HOUR = 999;
    private static final int MOST_HOURS = 24;
    private static final int MOST_CHANCE_HOURS = 8;
    private static final int MOST_MEAN_HOURS = 6;
    private static final int STEPS_IN_ROW = 10;
    private static final int MOST_OWED = 999;
    private static final int MOST_ERR = 9;
    private static final int MOST_PURSE = 9999;
    private static final int MOST_WAGE = 99;
    private static final int MOST_FEE = 999;
    private static final int MOST_TAKEN = 99999;

    private static final int BLIND = -1;
    private static final int STRONGEST = 9;
    private static final int THICKEST = 9;
    private static final int STREET = 0;
    private static final int WALL = 10;
    private static final int DIRECTIONS = 4;
    private static final int STAYING = 4;

    private static final int BYTES = 0;
    private static final int SHORTS = 1;
    private static final int INTS = 2;
    private static final int NO_SHEET = 3;

    private static final int LOW_YARDS = 18;
    private static final int YARD_BITS = 6;

    private final Text text = new Text();
    private final Town streets = new Town();
    private final Rule price = new Rule();
    private final Affairs now = new Affairs();
    private final Affairs[] kept = new Affairs[MOST_KEPT];
    private final Fog steady = new Fog();
    private final Sight sight = new Sight(streets, now.mist, price);
    private final Ways ways = new Ways(streets, now);
    private final Ways otherWays = new Ways(streets, now);
    private final Prices prices = new Prices(streets, sight, ways);
    private final Errand errand = new Errand(ways, now.mist);
    private final Chances chances = new Chances(streets, sight, ways, now);
    private final long[] numbers = new long[MOST_ROW];
    private int told;

    public FinedBySight() {
        for (int i = 0; i < MOST_KEPT; i++) {
            kept[i] = new Affairs();
        }
    }

    // ---- the town

    public int sign(int v) {
        return text.append(v) ? text.length : NONE;
    }

    public boolean end(int n) {
        return text.cut(n);
    }

    public int town() {
        int fault = streets.faultIn(text);
        if (fault == NONE) {
            streets.build(text);
            now.ropeCount = 0;
            for (int i = 0; i < MOST_WALKS; i++) {
                now.walks[i].told = false;
            }
            for (int i = 0; i < MOST_KEPT; i++) {
                kept[i].held = false;
            }
        }
        text.length = 0;
        return fault == NONE ? streets.size : -1 - fault;
    }

    public int fog() {
        int fault = now.mist.faultIn(text);
        if (fault == NONE) {
            now.mist.read(text);
        }
        text.length = 0;
        return fault == NONE ? now.mist.length : -1 - fault;
    }

    public int rule() {
        int fault = price.read(text);
        text.length = 0;
        return fault == NONE ? 0 : -1 - fault;
    }

    public int yard(int y) {
        return streets.isYard(y) ? streets.cells[y] : NONE;
    }

    public int lamp(int y, int v) {
        if (!streets.isStreet(y) || v < 0 || v > STRONGEST) {
            return NONE;
        }
        int before = streets.cells[y];
        streets.cells[y] = v;
        streets.kindle();
        return before;
    }

    public int err(int v) {
        if (v < 0 || v > MOST_ERR) {
            return NONE;
        }
        int before = now.erring;
        now.erring = v;
        return before;
    }

    public int thick(int hour) {
        return isHour(hour) ? now.mist.of(hour) : NONE;
    }

    public int sheet(int kind, int n, int f, int step) {
        if (kind < BYTES || kind > NO_SHEET || n > MOST_FOG) {
            return NONE;
        }
        if (kind == NO_SHEET) {
            now.mist.length = 0;
            return MISSING;
        }
        return n < 0 ? NOT_SO : now.mist.fill(kind, n, f, step);
    }

    public int rope(int a, int b) {
        if (now.ropeCount >= MOST_ROPES) {
            return FULL;
        }
        if (!streets.isStreet(a) || !streets.isStreet(b)) {
            return NONE;
        }
        long between = streets.between(a, b);
        if (between == 0) {
            return NOT_SO;
        }
        now.lay(between);
        return now.ropeCount;
    }

    public int unrope() {
        if (now.ropeCount == 0) {
            return NONE;
        }
        now.ropeCount--;
        return now.ropeCount;
    }

    // ---- what is seen and owed

    public int lit(int hour) {
        return isHour(hour) ? tellSet(streets.litIn(now.mist.of(hour))) : NONE;
    }

    public int sees(int y, int hour, int strength) {
        return isCase(y, hour, strength) ? tellSet(sight.from(y, hour, strength)) : NONE;
    }

    public int owed(int y, int hour, int strength) {
        return isCase(y, hour, strength) ? sight.owes(y, hour, strength) : NONE;
    }

    public int seen(int y, int hour, int strength) {
        if (!isCase(y, hour, strength)) {
            return NONE;
        }
        long watchers = 0;
        for (int z = 0; z < streets.size; z++) {
            if (streets.isStreet(z) && has(sight.from(z, hour, strength), y)) {
                watchers |= bit(z);
            }
        }
        return tellSet(watchers);
    }

    public int dearest(int hour, int strength) {
        if (!isHour(hour) || !isStrength(strength)) {
            return NONE;
        }
        int best = NOT_SO;
        int most = -1;
        for (int y = 0; y < streets.size; y++) {
            int price = streets.isStreet(y) ? sight.owes(y, hour, strength) : -1;
            if (price > most) {
                best = y;
                most = price;
            }
        }
        if (best >= 0) {
            tellOne(most);
        }
        return best;
    }

    public int light(int hour, int v) {
        if (!isHour(hour) || v < 1 || v > STRONGEST) {
            return NONE;
        }
        int fog = now.mist.of(hour);
        int best = NOT_SO;
        int most = -1;
        for (int y = 0; y < streets.size; y++) {
            if (streets.cells[y] == STREET) {
                int many = Long.bitCount(streets.litIn(fog) | streets.shine(y, v, fog));
                if (many > most) {
                    best = y;
                    most = many;
                }
            }
        }
        if (best >= 0) {
            tellOne(most);
        }
        return best;
    }

    public int needs(int from, int to, int hour) {
        if (!streets.isStreet(from) || !streets.isStreet(to) || from == to || !isHour(hour)) {
            return NONE;
        }
        for (int s = 0; s <= STRONGEST; s++) {
            if (has(sight.from(from, hour, s), to)) {
                return s;
            }
        }
        return NOT_SO;
    }

    // ---- walks

    public int walk(int i, int y, int hour, int strength) {
        int answer = NO_SUCH_WALK;
        if (isWalk(i) && isCase(y, hour, strength)) {
            int fault = Walk.faultIn(text);
            answer = -1 - fault;
            if (fault == NONE) {
                Walk walk = now.walks[i];
                walk.read(text);
                walk.begin(streets, y, hour, strength);
                answer = walk.lastPlace();
            }
        }
        text.length = 0;
        return answer;
    }

    public boolean drop(int i) {
        Walk walk = toldWalk(i);
        if (walk == null) {
            return false;
        }
        walk.told = false;
        return true;
    }

    public int at(int i, int hour) {
        Walk walk = toldWalk(i);
        return walk == null || !isHour(hour) ? NONE : walk.placeIn(hour);
    }

    public int bill(int i) {
        Walk walk = toldWalk(i);
        if (walk == null) {
            return NONE;
        }
        tellTwo(walk.stepCount + 1, unsafeSteps(walk, walk.strength));
        return sight.owesOn(walk, walk.strength);
    }

    public int saw(int i) {
        Walk walk = toldWalk(i);
        if (walk == null) {
            return NONE;
        }
        long all = 0;
        for (int k = 0; k <= walk.stepCount; k++) {
            all |= sight.from(walk.place(k), walk.start + k, walk.strength);
        }
        return tellSet(all);
    }

    public int dims(int i) {
        Walk walk = toldWalk(i);
        if (walk == null) {
            return NONE;
        }
        for (int s = 0; s <= STRONGEST; s++) {
            if (unsafeSteps(walk, s) == 0) {
                tellOne(sight.owesOn(walk, s));
                return s;
            }
        }
        return NOT_SO;
    }

    public int adopt(int i, int from, int to, int hour, int strength) {
        if (!isWalk(i) || !isJourney(from, to, hour, strength)) {
            return NONE;
        }
        int hours = findSafe(from, to, hour, strength);
        if (hours >= 0) {
            Walk walk = now.walks[i];
            walk.take(ways.steps, ways.stepCount);
            walk.begin(streets, from, hour, strength);
        }
        return hours;
    }

    public int hidden(int y, int hour, int n) {
        if (!streets.isStreet(y) || !isHour(hour) || n < 0 || n > MOST_HOURS) {
            return NONE;
        }
        int hours = 0;
        for (int k = 0; k < n; k++) {
            if (!isWatched(y, hour + k)) {
                hours |= 1 << k;
            }
        }
        return hours;
    }

    public int hit(int i, int j) {
        Walk one = toldWalk(i);
        Walk other = toldWalk(j);
        if (one == null || other == null || i == j) {
            return NONE;
        }
        int hour = firstHit(one, other);
        if (hour >= 0) {
            tellTwo(one.placeIn(hour), toBlame(i, j, hour));
        }
        return hour;
    }

    public int brush(int i, int j) {
        Walk one = toldWalk(i);
        Walk other = toldWalk(j);
        if (one == null || other == null || i == j) {
            return NONE;
        }
        int last = Math.min(one.lastHour(), other.lastHour());
        for (int hour = Math.max(one.start, other.start); hour < last; hour++) {
            int here = one.placeIn(hour);
            int there = other.placeIn(hour);
            if (here != there && one.placeIn(hour + 1) == there && other.placeIn(hour + 1) == here) {
                return hour;
            }
        }
        return NOT_SO;
    }

    public int hits() {
        int pairs = 0;
        int blamed = 0;
        for (int i = 0; i < MOST_WALKS; i++) {
            for (int j = i + 1; j < MOST_WALKS; j++) {
                Walk one = toldWalk(i);
                Walk other = toldWalk(j);
                int hour = one == null || other == null ? NOT_SO : firstHit(one, other);
                if (hour >= 0) {
                    pairs++;
                    blamed |= toBlame(i, j, hour);
                }
            }
        }
        tellOne(blamed);
        return pairs;
    }

    public int takings(int hour) {
        if (!isHour(hour)) {
            return NONE;
        }
        int sum = 0;
        int walking = 0;
        for (int i = 0; i < MOST_WALKS; i++) {
            Walk walk = toldWalk(i);
            int place = walk == null ? NOT_SO : walk.placeIn(hour);
            if (walk != null && place >= 0) {
                sum += sight.owes(place, hour, walk.strength);
                walking++;
            }
        }
        tellOne(walking);
        return sum;
    }

    public int fee(int n) {
        if (n < 0 || n > MOST_TAKEN) {
            return NONE;
        }
        int sum = 0;
        for (int i = 0; i < MOST_WALKS; i++) {
            Walk walk = toldWalk(i);
            sum += walk == null ? 0 : sight.owesOn(walk, walk.strength);
        }
        for (int times = 1; times <= MOST_FEE; times++) {
            if ((long) times * sum >= n) {
                return times;
            }
        }
        return NOT_SO;
    }

    // ---- ways

    public int way(int from, int to) {
        if (!streets.isStreet(from) || !streets.isStreet(to)) {
            return NONE;
        }
        int steps = findAny(from, to);
        if (steps >= 0) {
            told = 0;
            tellSteps(ways.steps, ways.stepCount);
        }
        return steps;
    }

    public int cheapest(int from, int to, int hour, int strength, int n) {
        if (!isJourney(from, to, hour, strength) || n < 0 || n > MOST_HOURS) {
            return NONE;
        }
        ways.allowAll();
        int least = prices.least(from, to, hour, strength, n);
        if (least >= 0) {
            prices.trace(from, to, n);
            tellOne(prices.stepCount);
            tellSteps(prices.steps, prices.stepCount);
        }
        return least;
    }

    public int safe(int from, int to, int hour, int strength) {
        if (!isJourney(from, to, hour, strength)) {
            return NONE;
        }
        int hours = findSafe(from, to, hour, strength);
        if (hours >= 0) {
            told = 0;
            tellSteps(ways.steps, ways.stepCount);
        }
        return hours;
    }

    public int buys(int from, int to, int hour, int n, int purse) {
        if (!isJourney(from, to, hour, 0) || n < 0 || n > MOST_HOURS || purse < 0 || purse > MOST_PURSE) {
            return NONE;
        }
        for (int s = 0; s <= STRONGEST; s++) {
            ways.allowSafe(s);
            int least = prices.least(from, to, hour, s, n);
            if (least >= 0 && least <= purse) {
                tellOne(least);
                return s;
            }
        }
        return NOT_SO;
    }

    public int reach(int from, int hour, int strength, int n) {
        if (!isCase(from, hour, strength) || n < 0 || n > MOST_HOURS) {
            return NONE;
        }
        ways.allowSafe(strength);
        return tellSet(ways.within(from, hour, now.mist, n));
    }

    public int tour(int from, int hour, int strength, int n, int list) {
        if (!isCase(from, hour, strength) || n < 0 || n > MOST_LISTED) {
            return NONE;
        }
        for (int k = 0; k < n; k++) {
            if (!streets.isStreet(Errand.listed(list, k))) {
                return NONE;
            }
        }
        ways.allowSafe(strength);
        errand.tell(n, list);
        int hours = errand.fewest(from, hour);
        if (hours >= 0) {
            told = 0;
            for (int k = 0; k < errand.many; k++) {
                tell(errand.bestOrder[k]);
            }
        }
        return hours;
    }

    public int bears(int from, int to, int strength) {
        if (!isJourney(from, to, 0, strength)) {
            return NONE;
        }
        ways.allowSafe(strength);
        for (int f = THICKEST; f >= 0; f--) {
            steady.fill(INTS, 1, f, 0);
            int hours = ways.soonest(from, to, 0, steady, MOST_HOURS);
            if (hours >= 0) {
                tellOne(hours);
                return f;
            }
        }
        return NOT_SO;
    }

    public int waits(int from, int to, int hour, int strength) {
        if (!isJourney(from, to, hour, strength)) {
            return NONE;
        }
        ways.allowSafe(strength);
        int last = NOT_SO;
        int fewest = MOST_HOURS + 1;
        for (int later = 0; later < MOST_HOURS; later++) {
            int hours = ways.soonest(from, to, hour + later, now.mist, MOST_HOURS);
            if (hours >= 0 && hours <= fewest) {
                fewest = hours;
                last = later;
            }
        }
        if (last >= 0) {
            tellOne(fewest);
        }
        return last;
    }

    // ---- chances

    public int chance(int from, int to, int hour, int strength, int n) {
        if (!isJourney(from, to, hour, strength) || n < 0 || n > MOST_CHANCE_HOURS) {
            return NONE;
        }
        ways.allowSafe(strength);
        chances.weigh(to, hour, n);
        tellFraction(chances.upper(from, n), Chances.tenTo(n));
        tell(chances.firstStep(from, to, hour, n));
        return 0;
    }

    public int likely(int i) {
        Walk walk = toldWalk(i);
        if (walk == null) {
            return NONE;
        }
        if (walk.stepCount > MOST_LIKELY) {
            return NOT_SO;
        }
        ways.allowSafe(walk.strength);
        tellFraction(chances.arrives(walk), Chances.tenTo(walk.stepCount));
        return 0;
    }

    public int mean(int from, int to, int hour, int strength, int n) {
        if (!isJourney(from, to, hour, strength) || n < 0 || n > MOST_MEAN_HOURS) {
            return NONE;
        }
        ways.allowSafe(strength);
        chances.weigh(to, hour, n);
        chances.charge(to, hour, strength, n);
        tellFraction(chances.charged(from), Chances.tenTo(n));
        return 0;
    }

    // ---- ropes, two who meet

    public int best(int from, int hour, int strength, int n) {
        if (!isCase(from, hour, strength) || n < 0 || n > MOST_HOURS) {
            return NONE;
        }
        int most = NOT_SO;
        int size = now.ropeCount < MOST_ROPES ? streets.size : 0;
        for (int a = 0; a < size; a++) {
            for (int b = a + 1; b < size; b++) {
                long between = streets.between(a, b);
                int many = between == 0 ? NOT_SO : reachedWith(between, from, hour, strength, n);
                if (many > most) {
                    most = many;
                    tellTwo(a, b);
                }
            }
        }
        return most;
    }

    public int meet(int one, int other, int hour, int strength, int otherStrength) {
        if (!isCase(one, hour, strength) || !isCase(other, hour, otherStrength)) {
            return NONE;
        }
        ways.allowSafe(strength);
        otherWays.allowSafe(otherStrength);
        long here = bit(one);
        long there = bit(other);
        for (int t = 0; t <= MOST_HOURS; t++) {
            if ((here & there) != 0) {
                tellOne(lowest(here & there));
                return t;
            }
            int fog = now.mist.of(hour + t);
            here = ways.spread(here, fog);
            there = otherWays.spread(there, fog);
        }
        return NOT_SO;
    }

    public int lead(int from, int to, int hour, int strength, int wage) {
        if (!isJourney(from, to, hour, strength) || wage < 0 || wage > MOST_WAGE) {
            return NONE;
        }
        int steps = findAny(from, to);
        if (steps < 0) {
            return NOT_SO;
        }
        int led = sight.owesAlong(ways, from, hour, strength) + wage * steps;
        boolean alone = findSafe(from, to, hour, strength) >= 0;
        tellOne(alone ? sight.owesAlong(ways, from, hour, strength) : NOT_SO);
        return led;
    }

    // ---- kept

    public boolean keep(int i) {
        if (i < 0 || i >= MOST_KEPT) {
            return false;
        }
        kept[i].copyFrom(now);
        kept[i].held = true;
        return true;
    }

    public boolean again(int i) {
        if (i < 0 || i >= MOST_KEPT || !kept[i].held) {
            return false;
        }
        now.copyFrom(kept[i]);
        return true;
    }

    public int count(int what) {
        switch (what) {
            case 0:
                return streets.size;
            case 1:
                return streets.wide;
            case 2:
                return Long.bitCount(streets.passable);
            case 3:
                return streets.lampCount();
            case 4:
                return now.ropeCount;
            case 5:
                return walksTold();
            case 6:
                return now.mist.length;
            case 7:
                return told;
            case 8:
                return text.length;
            default:
                return NONE;
        }
    }

    public long row(int i) throws NoSuchElementException {
        if (i < 0 || i >= told || i >= MOST_ROW) {
            throw new NoSuchElementException("the ROW has no such number");
        }
        return numbers[i];
    }

    // ---- what is asked of arguments

    private static boolean isHour(int hour) {
        return hour >= 0 && hour <= LAST_HOUR;
    }

    private static boolean isStrength(int strength) {
        return strength >= BLIND && strength <= STRONGEST;
    }

    private static boolean isWalk(int i) {
        return i >= 0 && i < MOST_WALKS;
    }

    private boolean isCase(int y, int hour, int strength) {
        return streets.isStreet(y) && isHour(hour) && isStrength(strength);
    }

    private boolean isJourney(int from, int to, int hour, int strength) {
        return isCase(from, hour, strength) && streets.isStreet(to);
    }

    private Walk toldWalk(int i) {
        return isWalk(i) && now.walks[i].told ? now.walks[i] : null;
    }

    private int walksTold() {
        int bits = 0;
        for (int i = 0; i < MOST_WALKS; i++) {
            if (now.walks[i].told) {
                bits |= 1 << i;
            }
        }
        return bits;
    }

    // ---- the ROW

    private void tell(long number) {
        if (told < MOST_ROW) {
            numbers[told] = number;
            told++;
        }
    }

    private void tellOne(long number) {
        told = 0;
        tell(number);
    }

    private void tellTwo(long first, long second) {
        told = 0;
        tell(first);
        tell(second);
    }

    private int tellSet(long yards) {
        tellTwo(yards & (bit(LOW_YARDS) - 1), yards >>> LOW_YARDS);
        return Long.bitCount(yards);
    }

    private void tellSteps(int[] steps, int many) {
        int most = Math.min(Math.min(many, steps.length), STEPS_IN_ROW);
        for (int k = 0; k < most; k++) {
            tell(steps[k]);
        }
    }

    private void tellFraction(long upper, long lower) {
        long divisor = greatestDivisor(upper, lower);
        tellTwo(divisor == 0 ? upper : upper / divisor, divisor == 0 ? lower : lower / divisor);
    }

    private static long greatestDivisor(long a, long b) {
        long great = a;
        long small = b;
        // Euclid's rests at least halve in two rounds: 128 rounds are more than a long can need.
        for (int k = 0; k < 128 && small != 0; k++) {
            long rest = great % small;
            great = small;
            small = rest;
        }
        return great;
    }

    // ---- what several calls ask

    private static long bit(int y) {
        return 1L << y;
    }

    private static boolean has(long yards, int y) {
        return (yards >>> y & 1) != 0;
    }

    private static int lowest(long yards) {
        int y = 0;
        while (y < MOST_YARDS && !has(yards, y)) {
            y++;
        }
        return y;
    }

    private int findAny(int from, int to) {
        ways.allowAll();
        return ways.find(from, to, 0, now.mist, MOST_YARDS);
    }

    private int findSafe(int from, int to, int hour, int strength) {
        ways.allowSafe(strength);
        return ways.find(from, to, hour, now.mist, MOST_HOURS);
    }

    private int unsafeSteps(Walk walk, int strength) {
        ways.allowSafe(strength);
        int many = 0;
        for (int k = 0; k < walk.stepCount; k++) {
            if (!ways.allows(walk.place(k), walk.steps[k], now.mist.of(walk.start + k))) {
                many++;
            }
        }
        return many;
    }

    private boolean isWatched(int y, int hour) {
        for (int i = 0; i < MOST_WALKS; i++) {
            Walk walk = toldWalk(i);
            int place = walk == null ? NOT_SO : walk.placeIn(hour);
            if (walk != null && place >= 0
                    && (place == y || has(sight.from(place, hour, walk.strength), y))) {
                return true;
            }
        }
        return false;
    }

    private static int firstHit(Walk one, Walk other) {
        int last = Math.min(one.lastHour(), other.lastHour());
        for (int hour = Math.max(one.start, other.start); hour <= last; hour++) {
            if (one.placeIn(hour) == other.placeIn(hour)) {
                return hour;
            }
        }
        return NOT_SO;
    }

    /** WALKS (bits) to blame for a hit; one that was nowhere in the HOUR ahead could not be seen either. */
    private int toBlame(int i, int j, int hour) {
        int both = 1 << i | 1 << j;
        Walk one = toldWalk(i);
        Walk other = toldWalk(j);
        if (one == null || other == null) {
            return both;
        }
        int here = one.placeIn(hour - 1);
        int there = other.placeIn(hour - 1);
        if (here < 0 || there < 0) {
            return both;
        }
        boolean oneSaw = has(sight.from(here, hour - 1, one.strength), there);
        boolean otherSaw = has(sight.from(there, hour - 1, other.strength), here);
        if (oneSaw == otherSaw) {
            return both;
        }
        return oneSaw ? 1 << i : 1 << j;
    }

    private int reachedWith(long rope, int from, int hour, int strength, int n) {
        now.lay(rope);
        ways.allowSafe(strength);
        int many = Long.bitCount(ways.within(from, hour, now.mist, n));
        now.ropeCount--;
        return many;
    }

    /** THE TEXT: signs as numbers 0 .. 255. */
    private static final class Text {
        final int[] signs = new int[MOST_SIGNS];
        int length;

        boolean append(int v) {
            if (length + 4 > MOST_SIGNS) {
                return false;
            }
            for (int k = 0; k < 4; k++) {
                signs[length] = v >>> (24 - 8 * k) & 255;
                length++;
            }
            return true;
        }

        boolean cut(int n) {
            if (n < 0 || n > length) {
                return false;
            }
            length = n;
            return true;
        }

        int signAt(int p) {
            return p >= 0 && p < length && p < MOST_SIGNS ? signs[p] : -1;
        }
    }

    /** THE TOWN with what follows from its plan alone: LINES, open STEPS, and LIT YARDS by FOG. */
    private static final class Town {
        // From a YARD at most this many others lie in one direction: a longer LINE is no other one.
        static final int LONGEST = MOST_SIDE - 1;

        final int[] cells = new int[MOST_YARDS];
        final long[] lines = new long[MOST_YARDS * MOST_SIDE];
        final long[] open = new long[DIRECTIONS];
        final int[] nexts = new int[MOST_YARDS * DIRECTIONS];
        final long[] litBy = new long[THICKEST + 1];
        long passable;
        int wide = 1;
        int size = 1;

        Town() {
            survey();
        }

        /** Where the first sign stands that can't stand there; NONE: nowhere. */
        int faultIn(Text text) {
            int first = MOST_SIDE;
            int rows = 0;
            int column = 0;
            for (int p = 0; p < text.length; p++) {
                int sign = text.signAt(p);
                if (sign == '/') {
                    if (column == 0 || rows > 0 && column != first) {
                        return p;
                    }
                    first = column;
                    column = 0;
                    rows++;
                } else {
                    if (rows == MOST_SIDE || column == first || kindOf(sign) == NONE) {
                        return p;
                    }
                    column++;
                }
            }
            return column == 0 || rows > 0 && column != first ? text.length : NONE;
        }

        void build(Text text) {
            int many = 0;
            int rows = 1;
            for (int p = 0; p < text.length; p++) {
                int sign = text.signAt(p);
                if (sign == '/') {
                    rows++;
                } else if (many < MOST_YARDS) {
                    cells[many] = kindOf(sign);
                    many++;
                }
            }
            size = many;
            wide = many / rows;
            survey();
        }

        static int kindOf(int sign) {
            if (sign >= '1' && sign <= '9') {
                return sign - '0';
            }
            if (sign == '.') {
                return STREET;
            }
            return sign == '#' ? WALL : NONE;
        }

        boolean isYard(int y) {
            return y >= 0 && y < size && y < MOST_YARDS;
        }

        boolean isStreet(int y) {
            return isYard(y) && cells[y] != WALL;
        }

        int lampCount() {
            int many = 0;
            for (int y = 0; y < size; y++) {
                if (cells[y] != STREET && cells[y] != WALL) {
                    many++;
                }
            }
            return many;
        }

        void survey() {
            passable = 0;
            for (int y = 0; y < size; y++) {
                if (cells[y] != WALL) {
                    passable |= bit(y);
                }
            }
            for (int d = 0; d < DIRECTIONS; d++) {
                open[d] = openTo(d);
                for (int y = 0; y < size; y++) {
                    nexts[y * DIRECTIONS + d] = has(open[d], y) ? y + delta(d) : y;
                }
            }
            for (int y = 0; y < size; y++) {
                drawLines(y);
            }
            kindle();
        }

        private long openTo(int d) {
            long yards = 0;
            for (int y = 0; y < size; y++) {
                int column = (y % Math.max(wide, 1)) + (d == 1 ? 1 : d == 3 ? -1 : 0);
                boolean inRow = column >= 0 && column < wide;
                if (isStreet(y) && inRow && isStreet(y + delta(d))) {
                    yards |= bit(y);
                }
            }
            return yards;
        }

        private void drawLines(int y) {
            for (int n = 0; n <= LONGEST; n++) {
                lines[y * MOST_SIDE + n] = 0;
            }
            for (int d = 0; d < DIRECTIONS; d++) {
                int at = y;
                long line = 0;
                for (int n = 1; n <= LONGEST; n++) {
                    int next = neighbour(at, d);
                    if (next != at) {
                        line |= bit(next);
                    }
                    lines[y * MOST_SIDE + n] |= line;
                    at = next;
                }
            }
        }

        void kindle() {
            for (int f = 0; f <= THICKEST; f++) {
                long yards = 0;
                for (int y = 0; y < size; y++) {
                    if (cells[y] != WALL) {
                        yards |= shine(y, cells[y], f);
                    }
                }
                litBy[f] = yards;
            }
        }

        long litIn(int fog) {
            return fog >= 0 && fog <= THICKEST ? litBy[fog] : 0;
        }

        long shine(int y, int strength, int fog) {
            return strength > fog ? bit(y) | line(y, strength - fog) : 0;
        }

        long line(int y, int n) {
            return isYard(y) ? lines[y * MOST_SIDE + Math.max(0, Math.min(n, LONGEST))] : 0;
        }

        int delta(int d) {
            switch (d) {
                case 0:
                    return -wide;
                case 1:
                    return 1;
                case 2:
                    return wide;
                case 3:
                    return -1;
                default:
                    return 0;
            }
        }

        /** Where a STEP leads: the same YARD, if that is a WALL or outside. */
        int neighbour(int y, int d) {
            boolean known = y >= 0 && y < MOST_YARDS && d >= 0 && d < DIRECTIONS;
            return known ? nexts[y * DIRECTIONS + d] : y;
        }

        /** All YARDS of a set, each gone one on. */
        long shifted(long yards, int d) {
            int delta = delta(d);
            return delta >= 0 ? yards << delta : yards >>> -delta;
        }

        /** The YARDS that lie one ahead of those of a set. */
        long unshifted(long yards, int d) {
            int delta = delta(d);
            return delta >= 0 ? yards >>> delta : yards << -delta;
        }

        /** The YARDS from one to another in one row or column; none, if there is no such ROPE. */
        long between(int a, int b) {
            for (int d = 0; d < DIRECTIONS; d++) {
                int at = a;
                long yards = bit(a);
                for (int n = 1; n <= LONGEST; n++) {
                    at = neighbour(at, d);
                    yards |= bit(at);
                    if (at == b && a != b) {
                        return yards;
                    }
                }
            }
            return 0;
        }
    }

    /** FOG by HOURS. */
    private static final class Fog {
        final int[] digits = new int[MOST_FOG];
        int length;

        int faultIn(Text text) {
            for (int p = 0; p < text.length; p++) {
                int sign = text.signAt(p);
                if (p == MOST_FOG || sign < '0' || sign > '9') {
                    return p;
                }
            }
            return NONE;
        }

        void read(Text text) {
            length = Math.min(text.length, MOST_FOG);
            for (int p = 0; p < length; p++) {
                digits[p] = text.signAt(p) - '0';
            }
        }

        int fill(int kind, int n, int f, int step) {
            length = Math.max(0, Math.min(n, MOST_FOG));
            int sum = 0;
            int entry = f;
            for (int k = 0; k < length; k++) {
                int value = kind == BYTES ? (byte) entry : kind == SHORTS ? (short) entry : entry;
                digits[k] = Math.max(0, Math.min(value, THICKEST));
                sum += digits[k];
                entry += step;
            }
            return sum;
        }

        int of(int hour) {
            return length > 0 && hour >= 0 ? digits[hour % length] : 0;
        }

        void copyFrom(Fog other) {
            length = other.length;
            System.arraycopy(other.digits, 0, digits, 0, MOST_FOG);
        }
    }

    /**
     * THE RULE, as numbers and things first and what joins them behind them. A code from 0 on is a NUMBER,
     * -1 .. -6 is a thing by its place in THINGS, below these is the sign that joins, with a minus.
     */
    private static final class Rule {
        static final String THINGS = "ysfhlc";
        // No sign of a text: a minus ahead of a thing is kept apart from one between two.
        static final int NEGATE = 256;

        final int[] code = new int[MOST_RULE];
        final int[] draft = new int[MOST_RULE];
        final int[] waiting = new int[MOST_RULE];
        final int[] stack = new int[MOST_RULE];
        final int[] values = new int[6];
        final boolean[] compared = new boolean[MOST_DEPTH + 1];
        int length = 1;
        int drafted;
        int pending;
        int depth;
        int digits;
        boolean thingAhead;

        Rule() {
            code[0] = -1;
        }

        /** Where the first sign stands that can't stand there; NONE: nowhere, and it is THE RULE now. */
        int read(Text text) {
            drafted = 0;
            pending = 0;
            depth = 0;
            digits = 0;
            thingAhead = false;
            compared[0] = false;
            for (int p = 0; p < text.length; p++) {
                if (p == MOST_RULE || !takes(text.signAt(p))) {
                    return p;
                }
            }
            if (text.length == 0) {
                code[0] = -1;
                length = 1;
                return NONE;
            }
            if (!thingAhead || depth > 0) {
                return text.length;
            }
            release(1);
            length = drafted;
            System.arraycopy(draft, 0, code, 0, MOST_RULE);
            return NONE;
        }

        private boolean takes(int sign) {
            return thingAhead ? takesBehindThing(sign) : takesThing(sign);
        }

        private boolean takesThing(int sign) {
            if (sign == '-') {
                putOff(NEGATE);
                return true;
            }
            if (sign == '(') {
                if (depth >= MOST_DEPTH) {
                    return false;
                }
                depth++;
                compared[depth] = false;
                putOff(sign);
                return true;
            }
            boolean digit = sign >= '0' && sign <= '9';
            int thing = THINGS.indexOf((char) sign);
            if (!digit && thing < 0) {
                return false;
            }
            emit(digit ? sign - '0' : -1 - thing);
            digits = digit ? 1 : 0;
            thingAhead = true;
            return true;
        }

        private boolean takesBehindThing(int sign) {
            if (sign >= '0' && sign <= '9') {
                return lengthens(sign - '0');
            }
            digits = 0;
            if (sign == ')') {
                if (depth == 0) {
                    return false;
                }
                release(1);
                pending = Math.max(0, pending - 1);
                depth--;
                return true;
            }
            int rank = rank(sign);
            if (rank == 0 || rank == 1 && compared[depth]) {
                return false;
            }
            if (rank == 1) {
                compared[depth] = true;
            }
            release(rank);
            putOff(sign);
            thingAhead = false;
            return true;
        }

        private boolean lengthens(int digit) {
            if (digits == 0 || digits == 3 || drafted == 0) {
                return false;
            }
            draft[drafted - 1] = draft[drafted - 1] * 10 + digit;
            digits++;
            return true;
        }

        /** How firmly a sign binds; 0: it joins nothing. */
        private static int rank(int sign) {
            switch (sign) {
                case '<':
                case '>':
                case '=':
                    return 1;
                case '+':
                case '-':
                    return 2;
                case '*':
                case '/':
                    return 3;
                case NEGATE:
                    return 4;
                default:
                    return 0;
            }
        }

        private void emit(int piece) {
            if (drafted < MOST_RULE) {
                draft[drafted] = piece;
                drafted++;
            }
        }

        private void putOff(int sign) {
            if (pending < MOST_RULE) {
                waiting[pending] = sign;
                pending++;
            }
        }

        /** What waits and binds at least so firmly has all that it joins now. */
        private void release(int rank) {
            while (pending > 0 && rank(waiting[pending - 1]) >= rank) {
                pending--;
                emit(-waiting[pending]);
            }
        }

        void set(int place, int value) {
            if (place >= 0 && place < values.length) {
                values[place] = value;
            }
        }

        int worth() {
            int top = 0;
            for (int k = 0; k < length; k++) {
                int piece = code[k];
                if (piece >= -THINGS.length()) {
                    if (top < MOST_RULE) {
                        stack[top] = piece >= 0 ? piece : values[-1 - piece];
                        top++;
                    }
                } else if (piece == -NEGATE) {
                    if (top > 0) {
                        stack[top - 1] = -stack[top - 1];
                    }
                } else if (top > 1) {
                    top--;
                    stack[top - 1] = joined(-piece, stack[top - 1], stack[top]);
                }
            }
            return Math.max(0, Math.min(stack[0], MOST_OWED));
        }

        private static int joined(int sign, int a, int b) {
            switch (sign) {
                case '<':
                    return a < b ? 1 : 0;
                case '>':
                    return a > b ? 1 : 0;
                case '=':
                    return a == b ? 1 : 0;
                case '+':
                    return a + b;
                case '-':
                    return a - b;
                case '*':
                    return a * b;
                default:
                    return b == 0 ? 0 : a / b;
            }
        }
    }

    /** A WALK, with the YARD of each of its HOURS. */
    private static final class Walk {
        static final String STEPS = "urdlw";

        final int[] steps = new int[MOST_STEPS];
        final int[] places = new int[MOST_STEPS + 1];
        int stepCount;
        int start;
        int strength;
        boolean told;

        static int faultIn(Text text) {
            for (int p = 0; p < text.length; p++) {
                if (p == MOST_STEPS || STEPS.indexOf((char) text.signAt(p)) < 0) {
                    return p;
                }
            }
            return NONE;
        }

        void read(Text text) {
            stepCount = Math.min(text.length, MOST_STEPS);
            for (int p = 0; p < stepCount; p++) {
                steps[p] = STEPS.indexOf((char) text.signAt(p));
            }
        }

        void take(int[] others, int many) {
            stepCount = Math.max(0, Math.min(Math.min(many, others.length), MOST_STEPS));
            System.arraycopy(others, 0, steps, 0, stepCount);
        }

        void begin(Town town, int y, int hour, int lamp) {
            start = hour;
            strength = lamp;
            told = true;
            places[0] = y;
            for (int k = 0; k < stepCount; k++) {
                places[k + 1] = town.neighbour(places[k], steps[k]);
            }
        }

        int place(int k) {
            return k >= 0 && k <= stepCount && k <= MOST_STEPS ? places[k] : NOT_SO;
        }

        int placeIn(int hour) {
            return place(hour - start);
        }

        int lastPlace() {
            return place(stepCount);
        }

        int lastHour() {
            return start + stepCount;
        }

        void copyFrom(Walk other) {
            told = other.told;
            start = other.start;
            strength = other.strength;
            stepCount = other.stepCount;
            System.arraycopy(other.steps, 0, steps, 0, MOST_STEPS);
            System.arraycopy(other.places, 0, places, 0, MOST_STEPS + 1);
        }
    }

    /** What keep() keeps: ROPES, WALKS, ERR, FOG. */
    private static final class Affairs {
        final long[] ropes = new long[MOST_ROPES];
        final Walk[] walks = new Walk[MOST_WALKS];
        final Fog mist = new Fog();
        int ropeCount;
        int erring;
        boolean held;

        Affairs() {
            for (int i = 0; i < MOST_WALKS; i++) {
                walks[i] = new Walk();
            }
        }

        void lay(long yards) {
            if (ropeCount < MOST_ROPES) {
                ropes[ropeCount] = yards;
                ropeCount++;
            }
        }

        void copyFrom(Affairs other) {
            ropeCount = other.ropeCount;
            erring = other.erring;
            System.arraycopy(other.ropes, 0, ropes, 0, MOST_ROPES);
            mist.copyFrom(other.mist);
            for (int i = 0; i < MOST_WALKS; i++) {
                walks[i].copyFrom(other.walks[i]);
            }
        }
    }

    /** What one SEES and owes. */
    private static final class Sight {
        final Town town;
        final Fog mist;
        final Rule price;

        Sight(Town town, Fog mist, Rule price) {
            this.town = town;
            this.mist = mist;
            this.price = price;
        }

        long from(int y, int hour, int strength) {
            if (strength < 0) {
                return 0;
            }
            int fog = mist.of(hour);
            return town.line(y, strength - fog) | town.litIn(fog) & town.line(y, Town.LONGEST);
        }

        int owes(int y, int hour, int strength) {
            if (strength < 0) {
                return 0;
            }
            int fog = mist.of(hour);
            price.set(0, Long.bitCount(from(y, hour, strength)));
            price.set(1, strength);
            price.set(2, fog);
            price.set(3, hour);
            price.set(4, has(town.litIn(fog), y) ? 1 : 0);
            price.set(5, y);
            return price.worth();
        }

        int owesOn(Walk walk, int strength) {
            int sum = 0;
            for (int k = 0; k <= walk.stepCount; k++) {
                sum += owes(walk.place(k), walk.start + k, strength);
            }
            return sum;
        }

        /** What is owed on the way that was found last. */
        int owesAlong(Ways ways, int start, int hour, int strength) {
            int y = start;
            int sum = owes(y, hour, strength);
            for (int k = 0; k < ways.stepCount; k++) {
                y = town.neighbour(y, ways.steps[k]);
                sum += owes(y, hour + k + 1, strength);
            }
            return sum;
        }
    }

    /** Ways by STEPS that are allowed: all of them, or the SAFE ones of one STRENGTH. */
    private static final class Ways {
        final Town town;
        final Affairs affairs;
        // By FOG, then direction: the YARDS from which such a STEP into another YARD is allowed.
        final long[] allowed = new long[(THICKEST + 1) * DIRECTIONS];
        final long[] layers = new long[MOST_YARDS + 1];
        final int[] steps = new int[MOST_YARDS];
        int stepCount;

        Ways(Town town, Affairs affairs) {
            this.town = town;
            this.affairs = affairs;
        }

        void allowAll() {
            for (int d = 0; d < DIRECTIONS; d++) {
                for (int f = 0; f <= THICKEST; f++) {
                    allowed[f * DIRECTIONS + d] = town.open[d];
                }
            }
        }

        void allowSafe(int strength) {
            for (int d = 0; d < DIRECTIONS; d++) {
                long roped = roped(d);
                for (int f = 0; f <= THICKEST; f++) {
                    // The next YARD is on each LINE of 1 or more: only a lamp that is too weak needs LIT ones.
                    boolean every = strength == BLIND || strength > f;
                    long lit = town.unshifted(town.litIn(f), d) | roped;
                    allowed[f * DIRECTIONS + d] = every ? town.open[d] : town.open[d] & lit;
                }
            }
        }

        private long roped(int d) {
            long yards = 0;
            for (int k = 0; k < affairs.ropeCount; k++) {
                long rope = affairs.ropes[k];
                yards |= rope & town.unshifted(rope, d);
            }
            return yards;
        }

        private long allowedIn(int fog, int d) {
            return fog >= 0 && fog <= THICKEST ? allowed[fog * DIRECTIONS + d] : 0;
        }

        /** If a STEP is allowed; one that leads nowhere else is staying, which always is. */
        boolean allows(int y, int d, int fog) {
            return town.neighbour(y, d) == y || has(allowedIn(fog, d), y);
        }

        long spread(long yards, int fog) {
            long all = yards;
            for (int d = 0; d < DIRECTIONS; d++) {
                all |= town.shifted(yards & allowedIn(fog, d), d);
            }
            return all;
        }

        private long gathered(long yards, int fog) {
            long all = yards;
            for (int d = 0; d < DIRECTIONS; d++) {
                all |= town.unshifted(yards, d) & allowedIn(fog, d);
            }
            return all;
        }

        long within(int from, int hour, Fog fog, int n) {
            long yards = bit(from);
            for (int t = 0; t < n; t++) {
                yards = spread(yards, fog.of(hour + t));
            }
            return yards;
        }

        int soonest(int from, int to, int hour, Fog fog, int most) {
            long yards = bit(from);
            for (int t = 0; t <= most; t++) {
                if (has(yards, to)) {
                    return t;
                }
                yards = spread(yards, fog.of(hour + t));
            }
            return NOT_SO;
        }

        /** The fewest HOURS; steps are then the least row that needs no more. */
        int find(int from, int to, int hour, Fog fog, int most) {
            int hours = soonest(from, to, hour, fog, Math.min(most, MOST_YARDS));
            stepCount = Math.max(0, hours);
            if (hours < 0) {
                return hours;
            }
            layers[stepCount] = bit(to);
            for (int t = stepCount - 1; t >= 0; t--) {
                layers[t] = gathered(layers[t + 1], fog.of(hour + t));
            }
            int y = from;
            for (int t = 0; t < stepCount; t++) {
                steps[t] = leastStep(y, fog.of(hour + t), layers[t + 1]);
                y = town.neighbour(y, steps[t]);
            }
            return hours;
        }

        private int leastStep(int y, int fog, long goals) {
            for (int d = 0; d < DIRECTIONS; d++) {
                if (allows(y, d, fog) && has(goals, town.neighbour(y, d))) {
                    return d;
                }
            }
            return STAYING;
        }
    }

    /** The least that is owed on ways that are allowed. */
    private static final class Prices {
        // A key is what is owed, then the STEPS in its lowest bits: the lesser key is cheaper, then sooner.
        static final int STEP_BITS = 5;
        static final int FAR = Integer.MAX_VALUE;

        final Town town;
        final Sight sight;
        final Ways ways;
        final int[] keys = new int[(MOST_HOURS + 1) * MOST_YARDS];
        final long[] layers = new long[MOST_HOURS + 1];
        final int[] fogs = new int[MOST_HOURS + 1];
        final int[] steps = new int[MOST_HOURS];
        int stepCount;

        Prices(Town town, Sight sight, Ways ways) {
            this.town = town;
            this.sight = sight;
            this.ways = ways;
        }

        int least(int from, int to, int hour, int strength, int n) {
            int last = Math.max(0, Math.min(n, MOST_HOURS));
            layers[0] = bit(from);
            for (int t = 0; t <= last; t++) {
                fogs[t] = sight.mist.of(hour + t);
                if (t < last) {
                    layers[t + 1] = ways.spread(layers[t] & ~bit(to), fogs[t]);
                }
            }
            for (int t = last; t >= 0; t--) {
                for (int y = 0; y < town.size; y++) {
                    if (has(layers[t], y)) {
                        int onward = y == to ? -1 : t == last ? FAR : onward(y, t);
                        keys[t * MOST_YARDS + y] = onward == FAR
                                ? FAR : (sight.owes(y, hour + t, strength) << STEP_BITS) + 1 + onward;
                    }
                }
            }
            int key = keys[from];
            return key == FAR ? NOT_SO : key >> STEP_BITS;
        }

        private int onward(int y, int t) {
            int best = FAR;
            for (int d = 0; d <= STAYING; d++) {
                best = Math.min(best, keyBehind(y, t, d));
            }
            return best;
        }

        private int keyBehind(int y, int t, int d) {
            if (!ways.allows(y, d, fogs[t])) {
                return FAR;
            }
            return keys[(t + 1) * MOST_YARDS + town.neighbour(y, d)];
        }

        /** The steps that least() found, within the same n HOURS. */
        void trace(int from, int to, int n) {
            int y = from;
            stepCount = 0;
            for (int t = 0; t < n && t < MOST_HOURS && y != to; t++) {
                int best = onward(y, t);
                int step = 0;
                while (step < STAYING && keyBehind(y, t, step) != best) {
                    step++;
                }
                steps[t] = step;
                stepCount++;
                y = town.neighbour(y, step);
            }
        }
    }

    /** A list of YARDS in which one has to have been, in whatever order. */
    private static final class Errand {
        final Ways ways;
        final Fog mist;
        final int[] yards = new int[MOST_LISTED];
        final int[] order = new int[MOST_LISTED];
        final int[] bestOrder = new int[MOST_LISTED];
        // By how many YARDS of the order one has been in: where one can be.
        final long[] layers = new long[MOST_LISTED + 1];
        int many;

        Errand(Ways ways, Fog mist) {
            this.ways = ways;
            this.mist = mist;
        }

        static int listed(int list, int k) {
            return list >>> (YARD_BITS * k) & ((1 << YARD_BITS) - 1);
        }

        /** The YARDS of a list, each once, the least first. */
        void tell(int n, int list) {
            long set = 0;
            for (int k = 0; k < n && k < MOST_LISTED; k++) {
                set |= bit(listed(list, k));
            }
            many = 0;
            for (int y = 0; y < MOST_YARDS; y++) {
                if (has(set, y) && many < MOST_LISTED) {
                    yards[many] = y;
                    many++;
                }
            }
        }

        /** The fewest HOURS; bestOrder is then the least order that needs no more. */
        int fewest(int from, int hour) {
            int best = MOST_HOURS + 1;
            int codes = 1;
            for (int k = 0; k < many; k++) {
                codes *= many;
            }
            // Orders come from the least on, so that only a shorter one takes the place of an earlier one.
            for (int code = 0; code < codes; code++) {
                if (putInOrder(code)) {
                    int hours = hoursOf(from, hour, best - 1);
                    if (hours >= 0) {
                        best = hours;
                        System.arraycopy(order, 0, bestOrder, 0, MOST_LISTED);
                    }
                }
            }
            return best > MOST_HOURS ? NOT_SO : best;
        }

        /** An order by a code to the base of many, the first place highest; false: one comes twice in it. */
        private boolean putInOrder(int code) {
            int used = 0;
            int rest = code;
            for (int k = many - 1; k >= 0; k--) {
                int digit = rest % many;
                rest /= many;
                used |= 1 << digit;
                order[k] = yards[digit];
            }
            return Integer.bitCount(used) == many;
        }

        private int hoursOf(int from, int hour, int most) {
            begin(from);
            for (int t = 0; t <= most; t++) {
                if (layers[many] != 0) {
                    return t;
                }
                advance(mist.of(hour + t));
            }
            return NOT_SO;
        }

        private void begin(int from) {
            for (int k = 0; k <= many; k++) {
                layers[k] = 0;
            }
            if (many > 0 && order[0] == from) {
                layers[1] = bit(from);
            } else {
                layers[0] = bit(from) & ~missing(0);
            }
        }

        private void advance(int fog) {
            for (int k = many - 1; k >= 0; k--) {
                long next = ways.spread(layers[k], fog);
                layers[k + 1] |= next & bit(order[k]);
                layers[k] = next & ~missing(k);
            }
        }

        /** The YARDS of the order from place k on. */
        private long missing(int k) {
            long set = 0;
            for (int j = k; j < many; j++) {
                set |= bit(order[j]);
            }
            return set;
        }
    }

    /** Chances and means, as upper numbers of fractions by a power of ten. */
    private static final class Chances {
        final Town town;
        final Sight sight;
        final Ways ways;
        final Affairs affairs;
        // By the HOURS that are left, then the YARD: the greatest chance, by ten to these HOURS.
        final long[] greatest = new long[(MOST_CHANCE_HOURS + 1) * MOST_YARDS];
        final long[] ahead = new long[MOST_YARDS];
        final long[] behind = new long[MOST_YARDS];

        Chances(Town town, Sight sight, Ways ways, Affairs affairs) {
            this.town = town;
            this.sight = sight;
            this.ways = ways;
            this.affairs = affairs;
        }

        static long tenTo(int n) {
            long power = 1;
            for (int k = 0; k < n && k < MOST_LIKELY; k++) {
                power *= 10;
            }
            return power;
        }

        /** Ten times what a table holds on the mean behind a STEP. */
        private long tenfold(long[] table, int base, int y, int d, int fog) {
            int next = town.neighbour(y, d);
            if (ways.allows(y, d, fog)) {
                return 10 * table[base + next];
            }
            return (10 - affairs.erring) * table[base + next] + affairs.erring * table[base + y];
        }

        void weigh(int to, int hour, int n) {
            for (int y = 0; y < town.size; y++) {
                greatest[y] = y == to ? 1 : 0;
            }
            for (int left = 1; left <= n && left <= MOST_CHANCE_HOURS; left++) {
                int fog = sight.mist.of(hour + n - left);
                for (int y = 0; y < town.size; y++) {
                    greatest[left * MOST_YARDS + y] = y == to ? tenTo(left) : greatestOf(y, left, fog);
                }
            }
        }

        private long greatestOf(int y, int left, int fog) {
            long best = 0;
            for (int d = 0; d <= STAYING; d++) {
                best = Math.max(best, chanceOf(y, d, left, fog));
            }
            return best;
        }

        private long chanceOf(int y, int d, int left, int fog) {
            return tenfold(greatest, (left - 1) * MOST_YARDS, y, d, fog);
        }

        long upper(int y, int left) {
            return greatest[left * MOST_YARDS + y];
        }

        int firstStep(int from, int to, int hour, int n) {
            if (from == to || n == 0) {
                return STAYING;
            }
            int fog = sight.mist.of(hour);
            int step = 0;
            while (step < STAYING && chanceOf(from, step, n, fog) != upper(from, n)) {
                step++;
            }
            return step;
        }

        /** Behind it charged() tells what is owed on the mean; weigh() has to come ahead of it. */
        void charge(int to, int hour, int strength, int n) {
            for (int y = 0; y < town.size; y++) {
                behind[y] = 0;
            }
            for (int left = 1; left <= n && left <= MOST_CHANCE_HOURS; left++) {
                int start = hour + n - left;
                long scale = tenTo(left - 1);
                for (int y = 0; y < town.size; y++) {
                    long owed = town.isStreet(y) ? sight.owes(y, start + 1, strength) : 0;
                    ahead[y] = owed * scale + behind[y];
                }
                for (int y = 0; y < town.size; y++) {
                    behind[y] = y == to ? 0 : leastCharge(y, left, sight.mist.of(start));
                }
            }
        }

        private long leastCharge(int y, int left, int fog) {
            long least = Long.MAX_VALUE;
            for (int d = 0; d <= STAYING; d++) {
                if (chanceOf(y, d, left, fog) == upper(y, left)) {
                    least = Math.min(least, tenfold(ahead, 0, y, d, fog));
                }
            }
            return least;
        }

        long charged(int y) {
            return behind[y];
        }

        /** How likely a WALK ends where it ends, by ten to its STEPS. */
        long arrives(Walk walk) {
            for (int y = 0; y < town.size; y++) {
                ahead[y] = 0;
            }
            ahead[walk.places[0]] = 1;
            for (int k = 0; k < walk.stepCount; k++) {
                goOn(walk.steps[k], sight.mist.of(walk.start + k));
            }
            return ahead[walk.places[walk.stepCount]];
        }

        private void goOn(int d, int fog) {
            for (int y = 0; y < town.size; y++) {
                behind[y] = 0;
            }
            for (int y = 0; y < town.size; y++) {
                int next = town.neighbour(y, d);
                int erring = ways.allows(y, d, fog) ? 0 : affairs.erring;
                behind[next] += (10 - erring) * ahead[y];
                behind[y] += erring * ahead[y];
            }
            System.arraycopy(behind, 0, ahead, 0, MOST_YARDS);
        }
    }
}
