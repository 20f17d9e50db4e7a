/** Promises 21 to 33: each sentence that names a boundary. */
public final class WalksEdgesTest {
    private static final Due DUE = new Due();
    private static final String THIRTY = "rlrlrlrlrlrlrlrlrlrlrlrlrlrlrl";
    // 23 HOURS of FOG 9, then a clear one.
    private static final String LAST_CLEAR = "999999999999999999999990";

    public static void main(String[] args) {
        walkLength();
        walkSigns();
        walkAskedFirst();
        walkAnew();
        dropEdges();
        atEdges();
        billEdges();
        sawEdges();
        dimsLeast();
        dimsNone();
        adoptEdges();
        adoptNone();
        hiddenBits();
        hiddenOnTheStreets();
        hitFirstHour();
        hitBlame();
        hitNotThereYet();
        hitNone();
        brushEdges();
        brushNone();
        hitsPairs();
        hitsBlame();
        takingsEdges();
        feeLeast();
        feeNone();
        DUE.close("WalksEdgesTest");
    }

    private static void walkLength() {
        for (int n = 0; n <= 32; n++) {
            FinedBySight x = DUE.fresh("..");
            DUE.walk("w", 0, 1, 7, 3);
            String steps = (THIRTY + "rl").substring(0, n);
            DUE.is("21: " + n + " STEPS", DUE.walk(steps, 0, 0, 0, 0), n > 30 ? -31 : n % 2);
            DUE.is("21: THE TEXT is empty", x.count(8), 0);
            DUE.is("21: where it begins", x.at(0, 0), n > 30 ? -2 : 0);
            DUE.is("21: its last HOUR", x.at(0, n), n > 30 ? -2 : n % 2);
            DUE.is("21: behind it", x.at(0, n + 1), -2);
            DUE.is("21: as it was", x.at(0, 8) == 1, n > 30);
        }
        FinedBySight x = DUE.fresh("..");
        StringBuilder eighty = new StringBuilder();
        for (int k = 0; k < 80; k++) {
            eighty.append('w');
        }
        DUE.is("21: 80", DUE.walk(eighty.toString(), 0, 0, 0, 0), -31);
        DUE.is("21: none told", x.count(5), 0);
        DUE.is("21: 31, the last no STEP", DUE.walk(THIRTY + "x", 0, 0, 0, 0), -31);
    }

    private static void walkSigns() {
        String steps = "urdlw";
        int[] ends = {1, 5, 7, 3, 4};
        for (int sign = 0; sign < 256; sign++) {
            FinedBySight x = DUE.fresh(".../.../...");
            x.sign(sign << 24);
            x.end(1);
            int d = steps.indexOf(sign);
            DUE.is("21: sign " + sign, x.walk(3, 4, 0, 0), d < 0 ? -1 : ends[d]);
            DUE.is("21: told by sign " + sign, x.count(5), d < 0 ? 0 : 8);
        }
        for (int p = 0; p < 30; p++) {
            StringBuilder text = new StringBuilder(THIRTY);
            text.setCharAt(p, 'x');
            FinedBySight x = DUE.fresh("..");
            DUE.is("21: x at " + p, DUE.walk(text.toString(), 0, 0, 0, 0), -1 - p);
            DUE.is("21: none told", x.count(5), 0);
        }
    }

    /** -100 is asked first, whatever THE TEXT is. */
    private static void walkAskedFirst() {
        String[] texts = {"", "r", "x", THIRTY + "r"};
        int[][] wrong = {{-1, 0, 0, 0}, {4, 0, 0, 0}, {0, -1, 0, 0}, {0, 3, 0, 0}, {0, 1, 0, 0}, {0, 0, -1, 0},
            {0, 0, 1000, 0}, {0, 0, 0, -2}, {0, 0, 0, 10}, {4, 3, 1000, 10}};
        for (String text : texts) {
            for (int[] w : wrong) {
                FinedBySight x = DUE.fresh(".#.");
                DUE.walk("", 0, 2, 5, 5);
                DUE.is("21: asked first, \"" + text + "\"", DUE.walk(text, w[0], w[1], w[2], w[3]), -100);
                DUE.is("21: THE TEXT is empty", x.count(8), 0);
                DUE.is("21: as it was", x.at(0, 5), 2);
                DUE.is("21: none more", x.count(5), 1);
            }
        }
    }

    private static void walkAnew() {
        FinedBySight x = DUE.fresh("...");
        DUE.walk("rr", 0, 0, 0, 9);
        DUE.is("21: told anew", DUE.walk("", 0, 1, 3, 0), 1);
        DUE.is("21: not as it was", x.at(0, 0), -2);
        DUE.is("21: in that HOUR alone", x.at(0, 3), 1);
        DUE.is("21: not behind it", x.at(0, 4), -2);
        DUE.is("21: nor ahead of it", x.at(0, 2), -2);
        DUE.is("21: with its STRENGTH", x.bill(0), 0);
        DUE.row("21: one HOUR", 1, 0);
    }

    private static void dropEdges() {
        FinedBySight x = DUE.fresh("..");
        for (int i = -1; i <= 4; i++) {
            DUE.is("22: none told, " + i, x.drop(i), false);
        }
        for (int i = 0; i < 4; i++) {
            DUE.walk("", i, 0, 0, 0);
        }
        DUE.is("22: 4", x.drop(4), false);
        DUE.is("22: -1", x.drop(-1), false);
        DUE.is("22: all told", x.count(5), 15);
        int left = 15;
        for (int i = 3; i >= 0; i--) {
            left -= 1 << i;
            DUE.is("22: WALK " + i, x.drop(i), true);
            DUE.is("22: left", x.count(5), left);
            DUE.is("22: again", x.drop(i), false);
        }
    }

    private static void atEdges() {
        FinedBySight x = DUE.fresh("......");
        DUE.walk("rrr", 0, 0, 0, 0);
        DUE.walk("rrr", 3, 1, 997, 0);
        int[] hours = {-1, 0, 3, 4, 999, 1000};
        int[] first = {-1, 0, 3, -2, -2, -1};
        int[] last = {-1, -2, -2, -2, 3, -1};
        for (int k = 0; k < hours.length; k++) {
            DUE.is("23: the first, in " + hours[k], x.at(0, hours[k]), first[k]);
            DUE.is("23: the last, in " + hours[k], x.at(3, hours[k]), last[k]);
        }
        DUE.is("23: ahead of it", x.at(3, 996), -2);
        DUE.is("23: when it begins", x.at(3, 997), 1);
        DUE.is("23: none told", x.at(1, 0), -1);
        DUE.is("23: none told, another HOUR", x.at(1, 1000), -1);
        DUE.is("23: none such", x.at(4, 0), -1);
        DUE.is("23: none such below", x.at(-1, 0), -1);
    }

    private static void billEdges() {
        FinedBySight x = DUE.fresh("...");
        DUE.rule("999");
        DUE.walk("", 0, 0, 999, 0);
        DUE.is("24: one HOUR", x.bill(0), 999);
        DUE.row("24: one HOUR, no STEP", 1, 0);
        DUE.walk(THIRTY, 1, 0, 0, 0);
        DUE.is("24: the most", x.bill(1), 31 * 999);
        DUE.row("24: no STEP is SAFE", 31, 30);
        x.rope(0, 1);
        x.bill(1);
        DUE.row("24: each STEP is SAFE on a ROPE", 31, 0);
        x.unrope();
        x.rope(1, 2);
        x.bill(1);
        DUE.row("24: none on another ROPE", 31, 30);
        DUE.walk(THIRTY, 2, 0, 0, -1);
        DUE.is("24: a BLIND one", x.bill(2), 0);
        DUE.row("24: a BLIND one", 31, 0);
        DUE.walk("uuddllww", 3, 0, 0, 0);
        DUE.is("24: staying", x.bill(3), 9 * 999);
        DUE.row("24: staying is SAFE", 9, 0);
        DUE.rule("h-990");
        DUE.walk("www", 3, 0, 998, 0);
        DUE.is("24: HOURS go on behind 999", x.bill(3), 8 + 9 + 10 + 11);
        DUE.fog("0009");
        DUE.rule("f");
        DUE.is("24: and FOG with them", x.bill(3), 0 + 9 + 0 + 0);
    }

    private static void sawEdges() {
        FinedBySight x = DUE.fresh("....../....../....../....../....../......");
        DUE.walk("", 0, 0, 0, 0);
        DUE.is("25: none", x.saw(0), 0);
        DUE.row("25: none", 0, 0);
        DUE.walk("rdrdrdrdrd", 1, 0, 0, 9);
        DUE.is("25: all", x.saw(1), 36);
        DUE.row("25: all", 0x3FFFF, 0x3FFFF);
        DUE.walk("r", 2, 0, 0, 1);
        DUE.is("25: the last HOUR too", x.saw(2), 5);
        DUE.row("25: its own YARD from the other one", Due.set(0, 1, 2, 6, 7), 0);
        DUE.walk("", 3, 35, 999, 1);
        DUE.is("25: YARD 35", x.saw(3), 2);
        DUE.row("25: YARD 35", 0, Due.set(11, 16));
        DUE.fog("9094");
        DUE.walk("www", 2, 0, 998, 5);
        // HOURS 998 .. 1001: FOG 9, 4, 9, 0.
        DUE.is("25: in one of its HOURS", x.saw(2), 10);
        DUE.walk("ww", 2, 0, 998, 5);
        DUE.is("25: not in the HOUR behind it", x.saw(2), 2);
        DUE.row("25: not in the HOUR behind it", Due.set(1, 6), 0);
        DUE.walk("", 2, 0, 998, 5);
        DUE.is("25: nor in the HOUR behind one alone", x.saw(2), 0);
        DUE.fog("");
        x.saw(3);
        DUE.is("25: none such", x.saw(4), -1);
        DUE.is("25: none such below", x.saw(-1), -1);
        x.drop(0);
        DUE.is("25: none told", x.saw(0), -1);
        DUE.row("25: the ROW stays", 0, Due.set(11, 16));
    }

    private static void dimsLeast() {
        FinedBySight x = DUE.fresh("......");
        DUE.walk("r", 0, 0, 0, 9);
        for (int f = 0; f <= 9; f++) {
            x.sheet(2, 1, f, 0);
            x.hits();
            DUE.is("26: in FOG " + f, x.dims(0), f < 9 ? f + 1 : -2);
            DUE.row("26: owed in FOG " + f, f < 9 ? 1 + 2 : 0);
        }
        DUE.fog("");
        DUE.walk("", 1, 0, 0, 9);
        DUE.is("26: no STEPS", x.dims(1), 0);
        DUE.row("26: no STEPS", 0);
        DUE.walk("r", 2, 0, 0, -1);
        DUE.is("26: a BLIND one's STEPS", x.dims(2), 1);
        DUE.row("26: it would owe", 3);
        DUE.rule("s*100+h");
        x.dims(2);
        DUE.row("26: with that STRENGTH", 100 + 101);
    }

    private static void dimsNone() {
        FinedBySight x = DUE.fresh("...");
        DUE.fog("99");
        DUE.walk("r", 0, 0, 0, 9);
        x.lit(0);
        DUE.is("26: with none", x.dims(0), -2);
        DUE.row("26: the ROW stays", 0, 0);
        DUE.walk("wlu", 0, 0, 0, 9);
        DUE.is("26: staying", x.dims(0), 0);
        DUE.walk("rr", 0, 0, 0, 9);
        x.rope(0, 1);
        DUE.is("26: one STEP on a ROPE, one not", x.dims(0), -2);
        x.rope(1, 2);
        DUE.is("26: both", x.dims(0), 0);
        DUE.is("26: none told", x.dims(1), -1);
        DUE.is("26: none such", x.dims(4), -1);
        DUE.is("26: none such below", x.dims(-1), -1);
    }

    private static void adoptEdges() {
        FinedBySight x = DUE.fresh("..");
        DUE.fog(LAST_CLEAR);
        x.lit(0);
        DUE.is("27: 24 STEPS", x.adopt(3, 0, 1, 0, 1), 24);
        DUE.is("27: the HOUR ahead of the last", x.at(3, 23), 0);
        DUE.is("27: the last", x.at(3, 24), 1);
        DUE.is("27: behind it", x.at(3, 25), -2);
        DUE.row("27: it tells no ROW", 0, 0);
        x.bill(3);
        DUE.row("27: all SAFE", 25, 0);
        DUE.is("27: no STEPS", x.adopt(0, 1, 1, 999, 9), 0);
        DUE.is("27: there in that HOUR", x.at(0, 999), 1);
        DUE.is("27: not ahead of it", x.at(0, 998), -2);
        DUE.is("27: no STEPS, HOUR 5", x.adopt(0, 1, 1, 5, 0), 0);
        DUE.is("27: in that HOUR alone", x.at(0, 6), -2);
        x.bill(0);
        DUE.row("27: one HOUR", 1, 0);
        DUE.is("27: over 999", x.adopt(1, 0, 1, 999, -1), 1);
        DUE.is("27: it begins", x.at(1, 999), 0);
        DUE.is("27: THE TEXT is no matter", tellThenAdopt(x), 1);
        DUE.is("27: THE TEXT stays", x.count(8), 3);
    }

    private static int tellThenAdopt(FinedBySight x) {
        Due.tell(x, "xyz");
        return x.adopt(2, 0, 1, 23, 1);
    }

    private static void adoptNone() {
        FinedBySight x = DUE.fresh("...");
        DUE.fog("0" + LAST_CLEAR.substring(0, 23));
        DUE.walk("r", 0, 1, 7, 3);
        DUE.is("27: 25 would be needed", x.adopt(0, 0, 2, 0, 9), -2);
        DUE.is("27: as it was", x.at(0, 8), 2);
        DUE.is("27: none is told by it", x.adopt(1, 0, 2, 0, 9), -2);
        DUE.is("27: none told", x.count(5), 1);
        DUE.fog("0" + LAST_CLEAR.substring(0, 22));
        DUE.is("27: 24", x.adopt(1, 0, 2, 0, 9), 24);
        DUE.is("27: told by it", x.count(5), 3);
        DUE.is("27: no such WALK, no way", x.adopt(4, 0, 2, 0, 0), -1);
        DUE.is("27: a WALK below, no way", x.adopt(-1, 0, 2, 0, 0), -1);
    }

    private static void hiddenBits() {
        FinedBySight x = DUE.fresh("......");
        for (int n = 0; n <= 24; n++) {
            DUE.is("28: no WALKS, " + n, x.hidden(5, 0, n), (1 << n) - 1);
        }
        DUE.is("28: 25", x.hidden(5, 0, 25), -1);
        DUE.is("28: -1", x.hidden(5, 0, -1), -1);
        DUE.walk("", 0, 5, 23, -1);
        DUE.is("28: the last of 24", x.hidden(5, 0, 24), (1 << 23) - 1);
        DUE.is("28: the 24th of 23", x.hidden(5, 0, 23), (1 << 23) - 1);
        DUE.is("28: the lowest is the HOUR told", x.hidden(5, 23, 24), (1 << 24) - 2);
        DUE.is("28: one HOUR", x.hidden(5, 23, 1), 0);
        DUE.is("28: the HOUR behind it", x.hidden(5, 24, 1), 1);
        DUE.walk("wwww", 1, 0, 999, 9);
        DUE.is("28: over 999", x.hidden(5, 999, 24), (1 << 24) - 1 - 31);
        DUE.is("28: HOUR 1000", x.hidden(5, 1000, 0), -1);
    }

    private static void hiddenOnTheStreets() {
        FinedBySight x = DUE.fresh("....#./.#....");
        DUE.walk("ww", 0, 0, 5, 3);
        DUE.is("28: 3 far", x.hidden(3, 4, 5), 0b10001);
        DUE.walk("ww", 0, 0, 5, 2);
        DUE.is("28: too far", x.hidden(3, 4, 5), 0b11111);
        DUE.is("28: in it", x.hidden(0, 4, 5), 0b10001);
        x.lamp(3, 1);
        DUE.is("28: LIT", x.hidden(3, 4, 5), 0b10001);
        DUE.walk("ww", 0, 0, 5, -1);
        DUE.is("28: a BLIND one sees nothing LIT", x.hidden(3, 4, 5), 0b11111);
        DUE.is("28: a BLIND one is in it", x.hidden(0, 4, 5), 0b10001);
        DUE.walk("", 1, 3, 6, 0);
        DUE.is("28: one of two", x.hidden(3, 4, 5), 0b11011);
        DUE.is("28: a WALL", x.hidden(4, 4, 5), -1);
        DUE.is("28: behind the last", x.hidden(12, 4, 5), -1);
    }

    private static void hitFirstHour() {
        FinedBySight x = DUE.fresh("...");
        DUE.walk("www", 0, 1, 5, 0);
        DUE.walk("www", 1, 1, 2, 0);
        DUE.is("29: the first HOUR of the one is the last of the other", x.hit(0, 1), 5);
        DUE.row("29: there", 1, 3);
        DUE.is("29: the other way", x.hit(1, 0), 5);
        DUE.walk("ww", 1, 1, 2, 0);
        DUE.is("29: gone by then", x.hit(0, 1), -2);
        DUE.walk("rrl", 2, 0, 5, 0);
        DUE.is("29: the first of two", x.hit(0, 2), 6);
        DUE.row("29: the first of two", 1, 5);
        DUE.walk("", 3, 1, 8, 0);
        DUE.is("29: the last HOUR of both", x.hit(0, 3), 8);
        DUE.walk("", 3, 1, 0, 0);
        DUE.walk("", 1, 1, 0, 0);
        DUE.is("29: HOUR 0", x.hit(1, 3), 0);
        DUE.row("29: HOUR 0, none was there yet", 1, 10);
        DUE.walk("ww", 0, 0, 998, 0);
        DUE.walk("rl", 1, 0, 999, 0);
        DUE.walk("wl", 2, 1, 998, 0);
        DUE.is("29: HOUR 1000", x.hit(0, 2), 1000);
        DUE.is("29: HOUR 999", x.hit(0, 1), 999);
    }

    /** That which saw the other one's YARD in the HOUR ahead; both, if both did or none of them. */
    private static void hitBlame() {
        int[][] due = {{3, 2, 2}, {1, 3, 3}, {1, 3, 3}};
        int[] strengths = {1, 2, 9};
        for (int a = 0; a < 3; a++) {
            for (int b = 0; b < 3; b++) {
                FinedBySight x = DUE.fresh("...");
                DUE.walk("r", 0, 0, 7, strengths[a]);
                DUE.walk("l", 1, 2, 7, strengths[b]);
                String what = "29: " + strengths[a] + " and " + strengths[b];
                DUE.is(what, x.hit(0, 1), 8);
                DUE.row(what, 1, due[a][b]);
                DUE.is(what + ", the other way", x.hit(1, 0), 8);
                DUE.row(what + ", the other way", 1, due[a][b]);
            }
        }
        FinedBySight x = DUE.fresh("...");
        DUE.walk("r", 2, 0, 7, -1);
        DUE.walk("l", 3, 2, 7, 9);
        x.hit(2, 3);
        DUE.row("29: a BLIND one saw nothing", 1, 8);
        DUE.fog("00000009");
        x.hit(2, 3);
        DUE.row("29: FOG of the HOUR ahead", 1, 12);
        DUE.fog("90000000");
        x.hit(2, 3);
        DUE.row("29: not FOG of the HOUR itself", 1, 8);
        DUE.walk("r", 2, 0, 7, 9);
        DUE.walk("l", 3, 2, 7, -1);
        x.hit(2, 3);
        DUE.row("29: not FOG of the HOUR itself, the first one", 1, 4);
        DUE.fog("00000009");
        x.hit(2, 3);
        DUE.row("29: FOG of the HOUR ahead, the first one", 1, 12);
        DUE.fog("00000090");
        x.hit(2, 3);
        DUE.row("29: not FOG of two HOURS ahead", 1, 4);
        DUE.fog("");
        DUE.walk("wr", 2, 0, 6, 1);
        DUE.walk("rl", 3, 1, 6, 1);
        x.hit(2, 3);
        DUE.row("29: seen two HOURS ahead is too early", 1, 12);
    }

    /** One that was not there yet saw nothing, and there was no YARD of it to be seen. */
    private static void hitNotThereYet() {
        FinedBySight x = DUE.fresh("...");
        DUE.walk("rw", 0, 0, 5, 9);
        DUE.walk("w", 1, 1, 6, 9);
        DUE.is("29: one begins there", x.hit(0, 1), 6);
        DUE.row("29: both", 1, 3);
        DUE.walk("w", 2, 1, 6, 9);
        DUE.is("29: both begin there", x.hit(1, 2), 6);
        DUE.row("29: both begin there", 1, 6);
        DUE.walk("wl", 3, 2, 5, 9);
        DUE.is("29: there for one HOUR", x.hit(1, 3), 7);
        DUE.row("29: both saw", 1, 10);
    }

    private static void hitNone() {
        FinedBySight x = DUE.fresh("...");
        DUE.walk("r", 0, 0, 0, 0);
        DUE.walk("l", 1, 1, 0, 0);
        x.lit(0);
        DUE.is("29: they change YARDS", x.hit(0, 1), -2);
        DUE.is("29: like ones", x.hit(0, 0), -1);
        DUE.is("29: like ones that are not told", x.hit(2, 2), -1);
        DUE.is("29: none told", x.hit(0, 2), -1);
        DUE.is("29: none told first", x.hit(3, 0), -1);
        DUE.is("29: none such", x.hit(0, 4), -1);
        DUE.is("29: none such below", x.hit(-1, 0), -1);
        DUE.row("29: the ROW stays", 0, 0);
    }

    private static void brushEdges() {
        FinedBySight x = DUE.fresh("....");
        x.lit(0);
        DUE.walk("r", 0, 0, 0, 0);
        DUE.walk("l", 1, 1, 0, 0);
        DUE.is("30: HOUR 0", x.brush(0, 1), 0);
        DUE.is("30: the other way", x.brush(1, 0), 0);
        DUE.walk("rlrl", 2, 1, 5, 0);
        DUE.walk("lrlr", 3, 2, 5, 0);
        DUE.is("30: the first of many", x.brush(2, 3), 5);
        DUE.walk("wwwr", 2, 1, 5, 0);
        DUE.walk("wwwl", 3, 2, 5, 0);
        DUE.is("30: the last STEP of both", x.brush(2, 3), 8);
        DUE.walk("r", 2, 1, 999, 0);
        DUE.walk("l", 3, 2, 999, 0);
        DUE.is("30: HOUR 999", x.brush(2, 3), 999);
        DUE.walk("wr", 2, 1, 999, 0);
        DUE.walk("wl", 3, 2, 999, 0);
        DUE.is("30: HOUR 1000", x.brush(2, 3), 1000);
        DUE.row("30: it tells no ROW", 0, 0);
    }

    private static void brushNone() {
        FinedBySight x = DUE.fresh("....");
        DUE.walk("rl", 0, 1, 5, 0);
        DUE.walk("l", 1, 2, 6, 0);
        DUE.is("30: into one YARD", x.brush(0, 1), -2);
        DUE.walk("l", 1, 2, 4, 0);
        DUE.is("30: not in one HOUR", x.brush(0, 1), -2);
        DUE.walk("", 1, 2, 5, 0);
        DUE.is("30: gone when it would end", x.brush(0, 1), -2);
        DUE.walk("ww", 1, 1, 5, 0);
        DUE.is("30: one leaves, one stays", x.brush(0, 1), -2);
        DUE.walk("rr", 2, 0, 0, 0);
        DUE.walk("rr", 3, 0, 0, 0);
        DUE.is("30: side by side", x.brush(2, 3), -2);
        DUE.is("30: like ones", x.brush(2, 2), -1);
        x.drop(3);
        DUE.is("30: none told", x.brush(2, 3), -1);
        DUE.is("30: none told first", x.brush(3, 2), -1);
        DUE.is("30: none such", x.brush(2, 4), -1);
        DUE.is("30: none such below", x.brush(-1, 2), -1);
    }

    private static void hitsPairs() {
        FinedBySight x = DUE.fresh("......");
        int[] pairs = {0, 0, 1, 3, 6};
        for (int many = 0; many <= 4; many++) {
            if (many > 0) {
                DUE.walk("w", many - 1, 2, 5, 0);
            }
            DUE.is("31: " + many + " WALKS", x.hits(), pairs[many]);
            DUE.row("31: " + many + " WALKS", many < 2 ? 0 : (1 << many) - 1);
        }
        DUE.walk("", 0, 5, 0, 0);
        DUE.walk("", 1, 5, 0, 0);
        DUE.is("31: in HOUR 0", x.hits(), 2);
        DUE.row("31: in HOUR 0", 15);
        x.drop(2);
        DUE.is("31: in HOUR 0 alone", x.hits(), 1);
        DUE.row("31: in HOUR 0 alone", 3);
        for (int i = 0; i < 3; i++) {
            DUE.walk("w", i, 2, 5, 0);
        }
        DUE.walk("w", 3, 2, 7, 0);
        DUE.is("31: one comes later", x.hits(), 3);
        DUE.row("31: one comes later", 7);
        DUE.walk("w", 3, 2, 6, 0);
        DUE.is("31: in the last HOUR", x.hits(), 6);
        DUE.row("31: in the last HOUR", 15);
    }

    /** To blame in one of these, by the first HOUR of each. */
    private static void hitsBlame() {
        FinedBySight x = DUE.fresh("......");
        DUE.walk("rwlr", 0, 0, 0, 9);
        DUE.walk("wwww", 1, 1, 0, 0);
        DUE.is("31: a pair that hits twice", x.hits(), 1);
        DUE.row("31: the first HOUR alone", 1);
        DUE.walk("l", 2, 5, 0, 9);
        DUE.walk("", 3, 4, 1, 0);
        DUE.is("31: two pairs", x.hits(), 2);
        DUE.row("31: one, and both", 1 | 12);
    }

    private static void takingsEdges() {
        FinedBySight x = DUE.fresh("..");
        DUE.is("32: no WALKS", x.takings(0), 0);
        DUE.row("32: no WALKS", 0);
        DUE.rule("999");
        for (int i = 0; i < 4; i++) {
            DUE.walk("ww", i, 0, 997 + i % 2, 0);
        }
        int[] due = {0, 2, 4, 4};
        for (int k = 0; k < 4; k++) {
            DUE.is("32: HOUR " + (996 + k), x.takings(996 + k), 999 * due[k]);
            DUE.row("32: HOUR " + (996 + k), due[k]);
        }
        DUE.is("32: HOUR 1000", x.takings(1000), -1);
        DUE.is("32: HOUR -1", x.takings(-1), -1);
        DUE.row("32: the ROW stays", 4);
        DUE.walk("ww", 0, 0, 997, -1);
        DUE.is("32: a BLIND one pays nothing", x.takings(999), 999 * 3);
        DUE.row("32: but is on the streets", 4);
        DUE.rule("h");
        DUE.walk("w", 1, 0, 0, 0);
        DUE.is("32: in HOUR 0", x.takings(0), 0);
        DUE.row("32: in HOUR 0", 1);
        DUE.is("32: in HOUR 1", x.takings(1), 1);
        DUE.is("32: in HOUR 2", x.takings(2), 0);
        DUE.row("32: in HOUR 2", 0);
    }

    private static void feeLeast() {
        FinedBySight x = DUE.fresh("..");
        DUE.rule("1");
        DUE.walk("wwwwwwwww", 0, 0, 0, 0);
        x.lit(0);
        int[] n = {0, 1, 10, 11, 20, 21, 9980, 9981, 9990};
        int[] due = {1, 1, 1, 2, 2, 3, 998, 999, 999};
        for (int k = 0; k < n.length; k++) {
            DUE.is("33: " + n[k], x.fee(n[k]), due[k]);
        }
        DUE.is("33: 9991", x.fee(9991), -2);
        DUE.walk("wwwwwwwww", 3, 0, 0, 0);
        DUE.is("33: by all WALKS", x.fee(9991), 500);
        DUE.rule("999");
        DUE.is("33: the most", x.fee(99999), 6);
        DUE.row("33: it tells no ROW", 0, 0);
    }

    private static void feeNone() {
        FinedBySight x = DUE.fresh("..");
        DUE.is("33: no WALKS, 0", x.fee(0), 1);
        DUE.is("33: no WALKS, 1", x.fee(1), -2);
        DUE.is("33: no WALKS, 99999", x.fee(99999), -2);
        DUE.is("33: 100000", x.fee(100000), -1);
        DUE.is("33: -1", x.fee(-1), -1);
        DUE.walk("w", 0, 0, 0, -1);
        DUE.is("33: a BLIND one owes nothing", x.fee(1), -2);
        DUE.rule("50");
        DUE.walk("w", 0, 0, 0, 0);
        DUE.is("33: 999 times 100", x.fee(99900), 999);
        DUE.is("33: one more", x.fee(99901), -2);
        DUE.rule("51");
        DUE.is("33: 99999", x.fee(99999), 981);
    }
}
