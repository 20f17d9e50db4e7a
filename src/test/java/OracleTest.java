import java.util.ArrayList;
import java.util.List;
import java.util.NoSuchElementException;
import java.util.Random;

/** Runs of calls, drawn by fixed seeds, on FinedBySight and on Plain: each answer and each ROW has to be alike. */
public final class OracleTest {
    private static final int RUNS = 600;
    // An object is used for 512 calls; one told text with its call takes fewer than these that are left.
    private static final int CALLS = 512 - 60;

    private final Random random;
    private final FinedBySight x = new FinedBySight();
    private final Plain plain = new Plain();
    private final List<String> calls = new ArrayList<>();
    private int asked;

    private OracleTest(long seed) {
        random = new Random(seed);
    }

    public static void main(String[] args) {
        int runs = args.length > 0 ? Integer.parseInt(args[0]) : RUNS;
        int wrong = 0;
        for (int seed = 0; seed < runs && wrong < 5; seed++) {
            String fault = new OracleTest(seed).run();
            if (fault != null) {
                wrong++;
                System.out.println("seed " + seed + ": " + fault);
            }
        }
        System.out.println(wrong == 0 ? "all runs are alike" : wrong + " runs are not alike");
        if (wrong != 0) {
            System.exit(1);
        }
    }

    private String run() {
        String fault = tellTown();
        while (asked < CALLS && fault == null) {
            fault = next();
        }
        return fault == null ? null : fault + " behind " + calls;
    }

    private int below(int n) {
        return random.nextInt(n);
    }

    private boolean rarely() {
        return below(25) == 0;
    }

    private int wild() {
        int[] odd = {-1, -2, 36, 1000, 10, 25, Integer.MAX_VALUE, Integer.MIN_VALUE, 7, 64};
        return odd[below(odd.length)];
    }

    private int yard() {
        if (rarely()) {
            return wild();
        }
        int y = 0;
        for (int k = 0; k < 6; k++) {
            y = below(plain.size());
            if (plain.street(y)) {
                return y;
            }
        }
        return y;
    }

    private int hour() {
        return rarely() ? wild() : below(8) == 0 ? 970 + below(30) : below(30);
    }

    private int strength() {
        return rarely() ? wild() : below(11) - 1;
    }

    private int upTo(int n) {
        return rarely() ? wild() : below(n + 1);
    }

    private String sameAnswer(String call, long got, long due) {
        calls.add(call);
        asked++;
        return got == due ? null : call + " answered " + got + ", due is " + due;
    }

    private String same(String call, long got, long due) {
        String fault = sameAnswer(call, got, due);
        return fault == null ? sameRow(call) : fault;
    }

    private String sameRow(String call) {
        asked += plain.row.size() + 2;
        if (x.count(7) != plain.row.size()) {
            return call + ": the ROW has " + x.count(7) + " numbers, due are " + plain.row;
        }
        for (int i = 0; i < plain.row.size(); i++) {
            if (x.row(i) != plain.row.get(i)) {
                return call + ": number " + i + " of the ROW is " + x.row(i) + ", due are " + plain.row;
            }
        }
        boolean thrown = false;
        try {
            x.row(plain.row.size());
        } catch (NoSuchElementException e) {
            thrown = true;
        }
        return thrown ? null : call + ": the ROW has a number more";
    }

    private String same(String call, boolean got, boolean due) {
        return same(call, got ? 1 : 0, due ? 1 : 0);
    }

    private String say(String text) {
        String fault = null;
        for (int p = 0; p < text.length() && fault == null; p += 4) {
            int v = 0;
            for (int k = 0; k < 4; k++) {
                v = v << 8 | (p + k < text.length() ? text.charAt(p + k) : 0);
            }
            fault = sameAnswer("sign(" + v + ")", x.sign(v), plain.sign(v));
        }
        return fault != null ? fault : same("end(\"" + text + "\")", x.end(text.length()), plain.end(text.length()));
    }

    private String drawn(String signs, int most) {
        StringBuilder text = new StringBuilder();
        int length = below(most + 1);
        for (int k = 0; k < length; k++) {
            text.append(signs.charAt(below(signs.length())));
        }
        return text.toString();
    }

    private String tellTown() {
        int wide = 1 + below(6);
        int high = 1 + below(6);
        int walls = below(4);
        int lamps = below(3);
        StringBuilder text = new StringBuilder();
        for (int r = 0; r < high; r++) {
            text.append(r > 0 ? "/" : "");
            for (int c = 0; c < wide; c++) {
                text.append(below(10) < walls ? '#' : below(12) < lamps ? (char) ('1' + below(9)) : '.');
            }
        }
        if (rarely() && text.length() > 0) {
            text.setCharAt(below(text.length()), "./#0x19".charAt(below(7)));
        }
        String fault = say(text.toString());
        return fault != null ? fault : same("town()", x.town(), plain.town());
    }

    private String expression(int depth) {
        StringBuilder text = new StringBuilder();
        int parts = 1 + below(4);
        for (int k = 0; k < parts; k++) {
            if (k > 0) {
                text.append(k == parts - 1 && below(3) == 0 ? "<>=".charAt(below(3)) : "+-*/".charAt(below(4)));
            }
            while (below(6) == 0) {
                text.append('-');
            }
            if (depth < 5 && below(4) == 0) {
                text.append('(').append(expression(depth + 1)).append(')');
            } else {
                text.append(below(3) == 0 ? "" + below(1100) : "" + "yyysfhlc".charAt(below(8)));
            }
        }
        return text.toString();
    }

    private String tellRule() {
        String text = below(5) == 0 ? drawn("ysfhlc0123456789+-*/<>=()", 45) : expression(0);
        if (rarely() && !text.isEmpty()) {
            int p = below(text.length());
            text = text.substring(0, p) + "xy)(<5".charAt(below(6)) + text.substring(p);
        }
        String fault = say(text.length() > 80 ? text.substring(0, 80) : text);
        return fault != null ? fault : same("rule()", x.rule(), plain.rule());
    }

    private String tellFog() {
        String digits = below(2) == 0 ? "0123" : "0123456789";
        String text = drawn(digits, below(6) == 0 ? 26 : 5) + (rarely() ? "x" : "");
        String fault = say(text);
        return fault != null ? fault : same("fog()", x.fog(), plain.fog());
    }

    private String tellWalk() {
        String text = drawn(rarely() ? "urdlwx" : "urdlw", below(5) == 0 ? 32 : 12);
        String fault = say(text);
        int i = upTo(3);
        int y = yard();
        int h = hour();
        int s = strength();
        String call = "walk(" + i + ", " + y + ", " + h + ", " + s + ")";
        return fault != null ? fault : same(call, x.walk(i, y, h, s), plain.walk(i, y, h, s));
    }

    private String next() {
        int which = below(60);
        if (which < 12) {
            return nextOfTown(which);
        }
        if (which < 20) {
            return nextOfSight(which - 12);
        }
        if (which < 40) {
            return nextOfWalks(which - 20);
        }
        return which < 52 ? nextOfWays(which - 40) : nextOfRest(which - 52);
    }

    private String nextOfTown(int which) {
        int y = yard();
        int z = yard();
        int v = upTo(10) - below(2);
        switch (which) {
            case 0:
                return below(6) == 0 ? tellTown() : tellRule();
            case 1:
                return tellFog();
            case 2:
                return tellRule();
            case 3:
                return same("yard(" + y + ")", x.yard(y), plain.yard(y));
            case 4:
                return same("lamp(" + y + ", " + v + ")", x.lamp(y, v), plain.lamp(y, v));
            case 5:
                return same("err(" + v + ")", x.err(v), plain.err(v));
            case 6:
                return same("thick(" + v + ")", x.thick(v), plain.thick(v));
            case 7:
                return sheet();
            case 8:
            case 9:
                int b = below(2) == 0 ? y + below(4) : z;
                return same("rope(" + y + ", " + b + ")", x.rope(y, b), plain.rope(y, b));
            case 10:
                return same("unrope()", x.unrope(), plain.unrope());
            default:
                return below(20) == 0 ? same("end(" + v + ")", x.end(v), plain.end(v)) : null;
        }
    }

    private String sheet() {
        int kind = below(6) - 1;
        int n = below(30) - 2;
        int f = below(3) == 0 ? random.nextInt() : below(12);
        int step = below(3) == 0 ? random.nextInt() : below(5) - 2;
        String call = "sheet(" + kind + ", " + n + ", " + f + ", " + step + ")";
        return same(call, x.sheet(kind, n, f, step), plain.sheet(kind, n, f, step));
    }

    private String nextOfSight(int which) {
        int y = yard();
        int z = yard();
        int h = hour();
        int s = strength();
        String case3 = "(" + y + ", " + h + ", " + s + ")";
        switch (which) {
            case 0:
                return same("lit(" + h + ")", x.lit(h), plain.lit(h));
            case 1:
                return same("sees" + case3, x.sees(y, h, s), plain.sees(y, h, s));
            case 2:
                return same("owed" + case3, x.owed(y, h, s), plain.owed(y, h, s));
            case 3:
                return same("seen" + case3, x.seen(y, h, s), plain.seen(y, h, s));
            case 4:
                return same("dearest(" + h + ", " + s + ")", x.dearest(h, s), plain.dearest(h, s));
            case 5:
                return same("light(" + h + ", " + s + ")", x.light(h, s), plain.light(h, s));
            case 6:
                return same("needs(" + y + ", " + z + ", " + h + ")", x.needs(y, z, h), plain.needs(y, z, h));
            default:
                int what = below(12) - 1;
                return same("count(" + what + ")", x.count(what), plain.count(what));
        }
    }

    private String nextOfWalks(int which) {
        int i = upTo(3);
        int j = upTo(3);
        int y = yard();
        int z = yard();
        int h = hour();
        int s = strength();
        int n = upTo(24);
        switch (which) {
            case 0:
                return below(3) == 0 ? same("drop(" + i + ")", x.drop(i), plain.drop(i)) : null;
            case 1:
                return same("at(" + i + ", " + h + ")", x.at(i, h), plain.at(i, h));
            case 2:
                return same("bill(" + i + ")", x.bill(i), plain.bill(i));
            case 3:
                return same("saw(" + i + ")", x.saw(i), plain.saw(i));
            case 4:
                return same("dims(" + i + ")", x.dims(i), plain.dims(i));
            case 5:
                String call = "adopt(" + i + ", " + y + ", " + z + ", " + h + ", " + s + ")";
                return same(call, x.adopt(i, y, z, h, s), plain.adopt(i, y, z, h, s));
            case 6:
                return same("hidden(" + y + ", " + h + ", " + n + ")", x.hidden(y, h, n), plain.hidden(y, h, n));
            case 7:
            case 8:
                return same("hit(" + i + ", " + j + ")", x.hit(i, j), plain.hit(i, j));
            case 9:
            case 10:
                return same("brush(" + i + ", " + j + ")", x.brush(i, j), plain.brush(i, j));
            case 11:
                return same("hits()", x.hits(), plain.hits());
            case 12:
                return same("takings(" + h + ")", x.takings(h), plain.takings(h));
            case 13:
                int sum = below(100) * (below(2) == 0 ? 1 : 1010);
                return same("fee(" + sum + ")", x.fee(sum), plain.fee(sum));
            case 14:
                return same("likely(" + i + ")", x.likely(i), plain.likely(i));
            default:
                return tellWalk();
        }
    }

    private String nextOfWays(int which) {
        int y = yard();
        int z = yard();
        int h = hour();
        int s = strength();
        int n = upTo(24);
        String journey = y + ", " + z + ", " + h + ", ";
        switch (which) {
            case 0:
                return same("way(" + y + ", " + z + ")", x.way(y, z), plain.way(y, z));
            case 1:
                return same("cheapest(" + journey + s + ", " + n + ")",
                        x.cheapest(y, z, h, s, n), plain.cheapest(y, z, h, s, n));
            case 2:
            case 3:
                return same("safe(" + journey + s + ")", x.safe(y, z, h, s), plain.safe(y, z, h, s));
            case 4:
                int purse = below(20) == 0 ? 9995 + below(10) : below(200);
                return same("buys(" + journey + n + ", " + purse + ")",
                        x.buys(y, z, h, n, purse), plain.buys(y, z, h, n, purse));
            case 5:
                return same("reach(" + y + ", " + h + ", " + s + ", " + n + ")",
                        x.reach(y, h, s, n), plain.reach(y, h, s, n));
            case 6:
            case 7:
                int many = upTo(4);
                int list = z | yard() << 6 | yard() << 12 | yard() << 18;
                return same("tour(" + y + ", " + h + ", " + s + ", " + many + ", " + list + ")",
                        x.tour(y, h, s, many, list), plain.tour(y, h, s, many, list));
            case 8:
                return same("bears(" + y + ", " + z + ", " + s + ")", x.bears(y, z, s), plain.bears(y, z, s));
            case 9:
                return same("waits(" + journey + s + ")", x.waits(y, z, h, s), plain.waits(y, z, h, s));
            case 10:
                int left = upTo(8);
                return same("chance(" + journey + s + ", " + left + ")",
                        x.chance(y, z, h, s, left), plain.chance(y, z, h, s, left));
            default:
                int next = upTo(6);
                return same("mean(" + journey + s + ", " + next + ")",
                        x.mean(y, z, h, s, next), plain.mean(y, z, h, s, next));
        }
    }

    private String nextOfRest(int which) {
        int y = yard();
        int z = yard();
        int h = hour();
        int s = strength();
        int other = strength();
        int n = upTo(24);
        int i = below(4) - 1;
        switch (which) {
            case 0:
                if (below(4) != 0) {
                    return null;
                }
                return same("best(" + y + ", " + h + ", " + s + ", " + n + ")",
                        x.best(y, h, s, n), plain.best(y, h, s, n));
            case 1:
            case 2:
                return same("meet(" + y + ", " + z + ", " + h + ", " + s + ", " + other + ")",
                        x.meet(y, z, h, s, other), plain.meet(y, z, h, s, other));
            case 3:
            case 4:
                int wage = upTo(99);
                return same("lead(" + y + ", " + z + ", " + h + ", " + s + ", " + wage + ")",
                        x.lead(y, z, h, s, wage), plain.lead(y, z, h, s, wage));
            case 5:
                return same("keep(" + i + ")", x.keep(i), plain.keep(i));
            case 6:
                return same("again(" + i + ")", x.again(i), plain.again(i));
            default:
                int v = random.nextInt();
                return below(10) == 0 ? same("sign(" + v + ")", x.sign(v), plain.sign(v)) : null;
        }
    }
}
