/** Promises 34 to 41: each sentence that names a boundary. */
public final class WaysEdgesTest {
    private static final Due DUE = new Due();
    private static final String NINES = "99999999999999999999999";
    // The one clear HOUR of 24 is the last one, or the first one; or the first one of 23.
    private static final String LAST_CLEAR = NINES + "0";
    private static final String FIRST_CLEAR = "0" + NINES;
    private static final String FIRST_OF_23 = "0" + NINES.substring(1);
    // YARDS 0 .. 5, 11, 12 .. 17, 18, 24 .. 29, 35: the way from 0 to 35 goes through all of them.
    private static final String SNAKE = "....../#####./....../.#####/....../#####.";
    private static final int MAX = Integer.MAX_VALUE;
    private static final int MIN = Integer.MIN_VALUE;

    public static void main(String[] args) {
        wayTenSteps();
        wayLeastRow();
        wayNone();
        cheapestWithin();
        cheapestTenSteps();
        cheapestSoonest();
        cheapestStaying();
        cheapestMost();
        safeWithin();
        safeTenSteps();
        safeWaits();
        buysWithin();
        buysPurse();
        buysStrengths();
        reachWithin();
        reachSizes();
        tourMany();
        tourList();
        tourOrder();
        tourWithin();
        bearsThickest();
        bearsNone();
        waitsLast();
        waitsFew();
        waitsNone();
        DUE.close("WaysEdgesTest");
    }

    /** The first 10. */
    private static void wayTenSteps() {
        FinedBySight x = DUE.fresh(SNAKE);
        int[] yards = {0, 1, 2, 3, 4, 5, 11, 17, 16, 15, 14, 13, 12, 18, 24, 25, 26, 27, 28, 29, 35};
        long[] steps = {1, 1, 1, 1, 1, 2, 2, 3, 3, 3};
        for (int far = 0; far < yards.length; far++) {
            DUE.is("34: " + far + " STEPS", x.way(0, yards[far]), far);
            DUE.row("34: " + far + " STEPS", java.util.Arrays.copyOf(steps, Math.min(far, 10)));
        }
        DUE.is("34: back", x.way(35, 0), 20);
        DUE.row("34: the first 10 back", 0, 3, 3, 3, 3, 3, 0, 0, 1, 1);
        // No town has a longer way: 24 YARDS, no two of which touch but those behind one another.
        DUE.town("....../#####./...#../.#...#/..###./#.....");
        DUE.is("34: the longest way of all", x.way(0, 29), 23);
        DUE.row("34: its first 10", 1, 1, 1, 1, 1, 2, 2, 3, 2, 3);
        DUE.is("34: the longest way back", x.way(29, 0), 23);
        DUE.row("34: its first 10 back", 2, 3, 3, 3, 3, 0, 3, 0, 0, 1);
        DUE.is("36: the longest SAFE one", x.safe(0, 29, 0, 1), 23);
        DUE.is("35: the longest that is cheapest", x.cheapest(0, 29, 0, -1, 23), 0);
        DUE.is("35: one HOUR too few", x.cheapest(0, 29, 0, -1, 22), -2);
        DUE.is("40: the longest in FOG", x.bears(0, 29, 9), 8);
        DUE.row("40: the longest in FOG", 23);
    }

    /** Of as few the least row. */
    private static void wayLeastRow() {
        FinedBySight x = DUE.fresh("....../....../....../....../....../......");
        DUE.is("34: corner to corner", x.way(0, 35), 10);
        DUE.row("34: right comes ahead of down", 1, 1, 1, 1, 1, 2, 2, 2, 2, 2);
        DUE.is("34: back", x.way(35, 0), 10);
        DUE.row("34: up comes ahead of left", 0, 0, 0, 0, 0, 3, 3, 3, 3, 3);
        DUE.is("34: the other corners", x.way(5, 30), 10);
        DUE.row("34: down comes ahead of left", 2, 2, 2, 2, 2, 3, 3, 3, 3, 3);
        DUE.is("34: the other corners back", x.way(30, 5), 10);
        DUE.row("34: up comes ahead of right", 0, 0, 0, 0, 0, 1, 1, 1, 1, 1);
    }

    private static void wayNone() {
        FinedBySight x = DUE.fresh(".#./###/.#.");
        int[] corners = {0, 2, 6, 8};
        for (int a : corners) {
            for (int b : corners) {
                x.reach(a, 0, 0, 0);
                DUE.is("34: " + a + " to " + b, x.way(a, b), a == b ? 0 : -2);
                DUE.row("34: the ROW", a == b ? new long[0] : new long[] {1 << a, 0});
            }
        }
        DUE.is("34: a WALL", x.way(1, 1), -1);
        DUE.is("34: like ones that are none", x.way(9, 9), -1);
        DUE.town("./#/.");
        DUE.is("34: a WALL between", x.way(0, 2), -2);
    }

    private static void cheapestWithin() {
        FinedBySight x = DUE.fresh("......");
        DUE.rule("1");
        for (int far = 0; far <= 5; far++) {
            DUE.is("35: just within " + far, x.cheapest(0, far, 999, 9, far), far + 1);
            if (far > 0) {
                x.lit(0);
                DUE.is("35: one HOUR too few for " + far, x.cheapest(0, far, 999, 9, far - 1), -2);
                DUE.row("35: the ROW stays", 0, 0);
            }
        }
        DUE.is("35: within 24", x.cheapest(0, 5, 0, 9, 24), 6);
        DUE.is("35: 25", x.cheapest(0, 5, 0, 9, 25), -1);
        DUE.is("35: -1", x.cheapest(0, 0, 0, 9, -1), -1);
        // In the last HOUR alone it costs nothing to come in: waiting till then is the cheapest.
        DUE.rule("(c=1)*(h<24)*500");
        DUE.is("35: the 24th HOUR counts", x.cheapest(0, 1, 0, 9, 24), 0);
        DUE.row("35: the 24th HOUR", 24, 0, 0, 0, 0, 0, 0, 0, 0, 0, 0);
        DUE.is("35: one HOUR less", x.cheapest(0, 1, 0, 9, 23), 500);
        DUE.row("35: of as cheap ones the soonest", 1, 1);
        DUE.town(".#.");
        DUE.is("35: no way", x.cheapest(0, 2, 0, 9, 24), -2);
    }

    private static void cheapestTenSteps() {
        FinedBySight x = DUE.fresh(SNAKE);
        DUE.rule("1");
        int[] yards = {0, 1, 2, 3, 4, 5, 11, 17, 16, 15, 14, 13, 12, 18, 24, 25, 26, 27, 28, 29, 35};
        for (int far = 8; far < 12; far++) {
            DUE.is("35: " + far + " far", x.cheapest(0, yards[far], 0, 0, 24), far + 1);
            DUE.is("35: numbers of " + far, x.count(7), 1 + Math.min(far, 10));
            DUE.is("35: the HOUR", x.row(0), far);
            DUE.is("35: a number more", DUE.throwsAt(1 + Math.min(far, 10)), true);
        }
        DUE.is("35: the farthest", x.cheapest(0, 35, 0, 0, 20), 21);
        DUE.row("35: the first 10", 20, 1, 1, 1, 1, 1, 2, 2, 3, 3, 3);
        DUE.is("35: just too far", x.cheapest(0, 35, 0, 0, 19), -2);
    }

    /** Of as cheap ones the soonest, then the least row; till one is there first. */
    private static void cheapestSoonest() {
        FinedBySight x = DUE.fresh(".../...");
        DUE.rule("0");
        DUE.is("35: nothing is owed", x.cheapest(0, 5, 0, 0, 24), 0);
        DUE.row("35: the soonest, the least row", 3, 1, 1, 2);
        DUE.is("35: a BLIND one", x.cheapest(5, 0, 0, -1, 24), 0);
        DUE.row("35: a BLIND one", 3, 0, 3, 3);
        DUE.rule("(c=1)");
        DUE.is("35: around 1", x.cheapest(0, 5, 0, 0, 24), 0);
        DUE.row("35: around 1", 3, 2, 1, 1);
        DUE.is("35: like ones", x.cheapest(1, 1, 0, 0, 24), 1);
        DUE.row("35: like ones", 0);
        // To leave at once or to come back later is no matter: one is there first in the first HOUR.
        DUE.rule("(h=0)*9");
        DUE.is("35: there already", x.cheapest(1, 1, 0, 0, 24), 9);
        DUE.row("35: there already", 0);
        DUE.rule("(h=1)*9");
        DUE.is("35: the second HOUR is dear anywhere", x.cheapest(0, 1, 0, 0, 24), 9);
        DUE.row("35: the second HOUR", 1, 1);
    }

    /** By any STEPS: staying where each direction leads on is 4. */
    private static void cheapestStaying() {
        FinedBySight x = DUE.fresh(".../.../...");
        DUE.rule("(c=5)*(h<2)*50+1");
        DUE.is("35: waiting", x.cheapest(4, 5, 0, 0, 24), 3);
        DUE.row("35: waiting", 2, 4, 1);
        DUE.rule("(c=5)*(h<3)*50+(c=4)");
        DUE.is("35: waiting elsewhere is cheaper", x.cheapest(4, 5, 0, 0, 24), 1);
        DUE.row("35: waiting elsewhere is cheaper", 3, 0, 1, 2);
        DUE.is("35: no time for it", x.cheapest(4, 5, 0, 0, 2), 51);
        DUE.row("35: no time for it", 1, 1);
    }

    private static void cheapestMost() {
        FinedBySight x = DUE.fresh(SNAKE);
        DUE.rule("999");
        DUE.is("35: the most that can be owed", x.cheapest(0, 35, 979, 0, 24), 21 * 999);
        DUE.is("35: over 999", x.cheapest(0, 35, 999, 0, 20), 21 * 999);
        DUE.rule("h-999");
        DUE.is("35: HOURS go on", x.cheapest(0, 2, 999, 0, 24), 0 + 1 + 2);
    }

    /** Not within 24. */
    private static void safeWithin() {
        FinedBySight x = DUE.fresh("...");
        DUE.fog(LAST_CLEAR);
        DUE.is("36: 24", x.safe(0, 1, 0, 9), 24);
        DUE.row("36: 24", 0, 0, 0, 0, 0, 0, 0, 0, 0, 0);
        DUE.is("36: 25 would do", x.safe(0, 2, 23, 9), -2);
        DUE.row("36: the ROW stays", 0, 0, 0, 0, 0, 0, 0, 0, 0, 0);
        DUE.is("36: from HOUR 23 on", x.safe(0, 1, 23, 9), 1);
        DUE.row("36: from HOUR 23 on", 1);
        DUE.fog(FIRST_OF_23);
        DUE.is("36: two in 24", x.safe(0, 2, 0, 9), 24);
        DUE.row("36: two in 24", 1, 0, 0, 0, 0, 0, 0, 0, 0, 0);
        DUE.fog(FIRST_CLEAR);
        DUE.is("36: two in 25", x.safe(0, 2, 0, 9), -2);
        DUE.fog("0009");
        DUE.is("36: HOUR 999 is in FOG", x.safe(0, 1, 999, 9), 2);
        DUE.row("36: HOUR 1000 is not", 0, 1);
    }

    private static void safeTenSteps() {
        FinedBySight x = DUE.fresh(SNAKE);
        int[] yards = {0, 1, 2, 3, 4, 5, 11, 17, 16, 15, 14, 13, 12, 18, 24, 25, 26, 27, 28, 29, 35};
        for (int far = 0; far < yards.length; far++) {
            DUE.is("36: " + far + " far", x.safe(0, yards[far], 0, 1), far);
            DUE.is("36: numbers of " + far, x.count(7), Math.min(far, 10));
        }
        DUE.is("36: with 0", x.safe(0, 1, 0, 0), -2);
        DUE.is("36: like ones with 0", x.safe(35, 35, 999, 0), 0);
        DUE.row("36: like ones");
        DUE.town(".#.");
        DUE.is("36: no way", x.safe(0, 2, 0, -1), -2);
    }

    /** Of as few the least row: staying against an edge keeps the number of its STEP, 4 comes last. */
    private static void safeWaits() {
        FinedBySight x = DUE.fresh(".../.../...");
        DUE.fog("90");
        DUE.is("36: from the middle", x.safe(4, 5, 0, 1), 2);
        DUE.row("36: staying is 4, where each STEP leads on", 4, 1);
        DUE.is("36: at the upper edge", x.safe(1, 2, 0, 1), 2);
        DUE.row("36: up is staying there", 0, 1);
        DUE.is("36: at the right edge", x.safe(5, 4, 0, 1), 2);
        DUE.row("36: right is staying there", 1, 3);
        DUE.is("36: at the lower edge", x.safe(7, 8, 0, 1), 2);
        DUE.row("36: down is staying there", 2, 1);
        DUE.is("36: at the left edge", x.safe(3, 4, 0, 1), 2);
        DUE.row("36: left is staying there", 3, 1);
        DUE.fog("990");
        DUE.is("36: two HOURS of FOG", x.safe(4, 5, 0, 1), 3);
        DUE.row("36: staying in both", 4, 4, 1);
        DUE.is("36: one HOUR of FOG", x.safe(4, 5, 1, 1), 2);
        DUE.row("36: staying in one", 4, 1);
        DUE.is("36: in a clear HOUR", x.safe(4, 5, 2, 1), 1);
        DUE.row("36: in a clear HOUR", 1);
        DUE.is("36: two STEPS", x.safe(4, 8, 2, 1), 4);
        DUE.row("36: one STEP, two HOURS of FOG, one STEP", 1, 1, 1, 2);
        DUE.fog("90");
        DUE.town(".../.../.#.");
        DUE.is("36: ahead of a WALL", x.safe(4, 5, 0, 1), 2);
        DUE.row("36: into a WALL is staying", 2, 1);
    }

    private static void buysWithin() {
        FinedBySight x = DUE.fresh("...");
        DUE.fog(LAST_CLEAR);
        DUE.is("37: within 24", x.buys(0, 1, 0, 24, 9999), 1);
        DUE.row("37: within 24", 1);
        DUE.is("37: within 23", x.buys(0, 1, 0, 23, 9999), -2);
        DUE.row("37: the ROW stays", 1);
        DUE.is("37: like ones within 0", x.buys(1, 1, 999, 0, 0), 0);
        DUE.row("37: like ones", 0);
        DUE.fog("");
        DUE.is("37: two within 2", x.buys(0, 2, 0, 2, 9999), 1);
        DUE.row("37: owed by two", 1 + 2 + 1);
        DUE.is("37: two within 1", x.buys(0, 2, 0, 1, 9999), -2);
        DUE.is("37: 25", x.buys(0, 2, 0, 25, 9999), -1);
        DUE.is("37: -1", x.buys(0, 2, 0, -1, 9999), -1);
    }

    private static void buysPurse() {
        FinedBySight x = DUE.fresh("......");
        DUE.rule("999");
        DUE.is("37: 6 times 999", x.buys(0, 5, 0, 5, 5994), 1);
        DUE.row("37: 6 times 999", 5994);
        DUE.is("37: one less", x.buys(0, 5, 0, 5, 5993), -2);
        DUE.is("37: 9999", x.buys(0, 5, 0, 24, 9999), 1);
        DUE.is("37: 10000", x.buys(0, 5, 0, 24, 10000), -1);
        DUE.is("37: -1", x.buys(0, 0, 0, 24, -1), -1);
        DUE.rule("0");
        DUE.is("37: nothing is owed", x.buys(0, 5, 0, 24, 0), 1);
        DUE.row("37: nothing is owed", 0);
        DUE.town(SNAKE);
        DUE.rule("500");
        DUE.is("37: 9999 is not enough", x.buys(0, 35, 0, 24, 9999), -2);
        DUE.rule("476");
        DUE.is("37: 21 times 476", x.buys(0, 35, 0, 24, 9996), 1);
        DUE.row("37: 21 times 476", 9996);
    }

    /** The least STRENGTH (0 .. 9): a BLIND one is none of these. */
    private static void buysStrengths() {
        FinedBySight x = DUE.fresh("..");
        for (int f = 0; f <= 9; f++) {
            x.sheet(2, 1, f, 0);
            DUE.is("37: in FOG " + f, x.buys(0, 1, 0, 24, 9999), f < 9 ? f + 1 : -2);
        }
        x.rope(0, 1);
        DUE.is("37: 0 on a ROPE", x.buys(0, 1, 0, 24, 9999), 0);
        DUE.rule("9-s");
        DUE.is("37: a purse for 9 alone", x.buys(0, 1, 0, 24, 0), 9);
        DUE.row("37: a purse for 9 alone", 0);
        DUE.is("37: a purse for 8", x.buys(0, 1, 0, 24, 2), 8);
        DUE.row("37: a purse for 8", 2);
    }

    private static void reachWithin() {
        FinedBySight x = DUE.fresh("......");
        for (int n = 0; n <= 7; n++) {
            DUE.is("38: within " + n, x.reach(0, 999, 1, n), Math.min(n + 1, 6));
            DUE.row("38: within " + n, (1 << Math.min(n + 1, 6)) - 1, 0);
        }
        DUE.fog(LAST_CLEAR);
        DUE.is("38: within 23", x.reach(0, 0, 9, 23), 1);
        DUE.is("38: within 24", x.reach(0, 0, 9, 24), 2);
        DUE.row("38: within 24", 3, 0);
        DUE.is("38: 25", x.reach(0, 0, 9, 25), -1);
        DUE.is("38: -1", x.reach(0, 0, 9, -1), -1);
        DUE.row("38: the ROW stays", 3, 0);
    }

    private static void reachSizes() {
        FinedBySight x = DUE.fresh("....../....../....../....../....../......");
        DUE.is("38: all but the corner", x.reach(0, 0, 1, 9), 35);
        DUE.row("38: all but the corner", 0x3FFFF, 0x1FFFF);
        DUE.is("38: all", x.reach(0, 0, 1, 10), 36);
        DUE.row("38: all", 0x3FFFF, 0x3FFFF);
        DUE.is("38: with 0", x.reach(35, 0, 0, 24), 1);
        DUE.row("38: that one", 0, 1 << 17);
        DUE.town(".#.");
        DUE.is("38: a BLIND one, between WALLS", x.reach(2, 0, -1, 24), 1);
        DUE.row("38: a BLIND one, between WALLS", 4, 0);
    }

    private static int list(int... yards) {
        int list = 0;
        for (int k = 0; k < yards.length; k++) {
            list |= yards[k] << 6 * k;
        }
        return list;
    }

    /** n (0 .. 4) YARDS. */
    private static void tourMany() {
        FinedBySight x = DUE.fresh("......");
        long[][] rows = {{}, {5}, {1, 5}, {1, 3, 5}, {1, 3, 4, 5}};
        int list = list(5, 1, 3, 4);
        for (int n = 0; n <= 4; n++) {
            DUE.is("39: " + n, x.tour(0, 999, 1, n, list), n == 0 ? 0 : 5);
            DUE.row("39: " + n, rows[n]);
            DUE.is("39: " + n + " from the middle", x.tour(2, 0, 1, n, list), n == 0 ? 0 : n == 1 ? 3 : 5);
            DUE.row("39: " + n + " from the middle", rows[n]);
        }
        DUE.is("39: 5", x.tour(0, 0, 1, 5, list), -1);
        DUE.is("39: -1", x.tour(0, 0, 1, -1, list), -1);
    }

    /** 6 bits each, from the lowest on; a YARD of the list that is a WALL or none. */
    private static void tourList() {
        FinedBySight x = DUE.fresh("....../....../....../....../....../..#..#");
        DUE.is("39: YARD 34", x.tour(33, 0, 1, 1, 34), 1);
        DUE.row("39: YARD 34", 34);
        int[] wrong = {32, 35, 36, 37, 63};
        for (int y : wrong) {
            for (int place = 0; place < 4; place++) {
                int[] yards = {1, 2, 3, 4};
                yards[place] = y;
                DUE.is("39: " + y + " at " + place, x.tour(0, 0, 1, 4, list(yards)), -1);
                DUE.is("39: " + y + " behind the last", x.tour(0, 0, 1, place, list(yards)), place == 0 ? 0 : place);
            }
        }
        DUE.is("39: none, whatever the list", x.tour(0, 0, 1, 0, -1), 0);
        DUE.row("39: none");
        DUE.is("39: all bits", x.tour(0, 0, 1, 1, -1), -1);
        DUE.is("39: bits above the fourth", x.tour(0, 0, 1, 4, list(1, 2, 3, 4) | MIN), 4);
        DUE.is("39: bits above the fourth alone", x.tour(0, 0, 1, 4, 0xFF000000), 0);
        DUE.row("39: YARD 0 four times", 0);
        DUE.is("39: the greatest list", x.tour(0, 0, 1, 4, MAX), -1);
    }

    /** In the order in which one is in them first, each once; of as few HOURS the least row. */
    private static void tourOrder() {
        FinedBySight x = DUE.fresh(".../.../...");
        DUE.is("39: like ones", x.tour(4, 0, 1, 4, list(4, 4, 4, 4)), 0);
        DUE.row("39: once", 4);
        DUE.is("39: two likes", x.tour(4, 0, 1, 4, list(5, 4, 5, 4)), 1);
        DUE.row("39: two likes", 4, 5);
        DUE.is("39: one by the way", x.tour(0, 0, 1, 2, list(2, 1)), 2);
        DUE.row("39: one by the way", 1, 2);
        DUE.is("39: either first", x.tour(1, 0, 1, 2, list(2, 0)), 3);
        DUE.row("39: the least row", 0, 2);
        DUE.is("39: corners", x.tour(4, 0, 1, 4, list(0, 2, 6, 8)), 8);
        DUE.row("39: corners, the least row", 0, 2, 8, 6);
        // From 0 the sides 1 and 3 and the middle 4: 1, 4, 3 takes 3 as 3, 4, 1 does.
        DUE.is("39: three", x.tour(0, 0, 1, 3, list(3, 4, 1)), 3);
        DUE.row("39: three", 1, 4, 3);
        DUE.is("39: as one comes to them", x.tour(4, 0, 1, 2, list(8, 5)), 2);
        DUE.row("39: as one comes to them", 5, 8);
        DUE.is("39: none of the list by the way", x.tour(4, 0, 1, 1, list(8)), 2);
        DUE.town("......");
        DUE.is("39: the greatest first", x.tour(5, 0, 1, 4, list(0, 1, 3, 4)), 5);
        DUE.row("39: the greatest first", 4, 3, 1, 0);
        DUE.is("39: one's own first", x.tour(5, 0, 1, 2, list(0, 5)), 5);
        DUE.row("39: one's own first", 5, 0);
        DUE.is("39: one's own first, nearer", x.tour(4, 0, 1, 3, list(0, 5, 4)), 6);
        DUE.row("39: one's own first, nearer", 4, 5, 0);
        // By 1 to 0 and back by 1: one has been in 1 first.
        DUE.is("39: a dead end", x.tour(2, 0, 1, 3, list(0, 1, 5)), 7);
        DUE.row("39: a dead end: in which one is first", 1, 0, 5);
    }

    private static void tourWithin() {
        FinedBySight x = DUE.fresh("...");
        DUE.fog(LAST_CLEAR);
        DUE.is("39: 24", x.tour(0, 0, 9, 1, 1), 24);
        DUE.row("39: 24", 1);
        DUE.is("39: 25", x.tour(0, 23, 9, 1, 2), -2);
        DUE.row("39: the ROW stays", 1);
        DUE.fog(FIRST_OF_23);
        DUE.is("39: two in 24", x.tour(0, 0, 9, 2, list(2, 1)), 24);
        DUE.row("39: two in 24", 1, 2);
        DUE.fog(FIRST_CLEAR);
        DUE.is("39: two in 25", x.tour(0, 0, 9, 2, list(2, 1)), -2);
        DUE.is("39: one of them", x.tour(0, 0, 9, 1, 1), 1);
        DUE.is("39: one's own in the dark", x.tour(0, 1, 0, 1, 0), 0);
        DUE.row("39: one's own in the dark", 0);
    }

    private static void bearsThickest() {
        FinedBySight x = DUE.fresh("..");
        DUE.fog("5");
        for (int s = 0; s <= 9; s++) {
            x.hits();
            DUE.is("40: STRENGTH " + s, x.bears(0, 1, s), s == 0 ? -2 : s - 1);
            DUE.row("40: HOURS of " + s, s == 0 ? 0 : 1);
        }
        DUE.is("40: a BLIND one", x.bears(0, 1, -1), 9);
        DUE.row("40: a BLIND one", 1);
        DUE.is("40: like ones", x.bears(1, 1, 0), 9);
        DUE.row("40: like ones", 0);
        x.lamp(1, 9);
        DUE.is("40: a LAMP of 9", x.bears(0, 1, 0), 8);
        x.lamp(1, 1);
        DUE.is("40: a LAMP of 1", x.bears(0, 1, 0), 0);
        x.lamp(1, 0);
        x.rope(0, 1);
        DUE.is("40: a ROPE", x.bears(0, 1, 0), 9);
        DUE.is("40: FOG is as it was", x.thick(0), 5);
        DUE.is("40: its digits too", x.count(6), 1);
        DUE.town(SNAKE);
        DUE.is("40: the farthest", x.bears(0, 35, 9), 8);
        DUE.row("40: the farthest", 20);
    }

    private static void bearsNone() {
        FinedBySight x = DUE.fresh(".#.");
        x.lit(0);
        DUE.is("40: no way", x.bears(0, 2, 9), -2);
        DUE.is("40: no way for a BLIND one", x.bears(0, 2, -1), -2);
        DUE.is("40: STRENGTH 10", x.bears(0, 0, 10), -1);
        DUE.is("40: STRENGTH -2", x.bears(0, 0, -2), -1);
        DUE.is("40: a WALL", x.bears(1, 1, 0), -1);
        DUE.row("40: the ROW stays", 0, 0);
    }

    /** The last HOUR, of the next 24. */
    private static void waitsLast() {
        FinedBySight x = DUE.fresh("..");
        DUE.fog(LAST_CLEAR);
        for (int h = 0; h < 24; h++) {
            DUE.is("41: clear " + (23 - h) + " later", x.waits(0, 1, h, 9), 23 - h);
            DUE.row("41: clear " + (23 - h) + " later", 1);
        }
        DUE.is("41: clear 23 later again", x.waits(0, 1, 24, 9), 23);
        DUE.is("41: HOUR 999 is 15 of a day", x.waits(0, 1, 999, 9), 8);
        DUE.fog("0");
        DUE.is("41: each HOUR", x.waits(0, 1, 999, 9), 23);
        DUE.fog("09");
        DUE.is("41: every other HOUR", x.waits(0, 1, 0, 9), 22);
        DUE.is("41: every other HOUR from 1 on", x.waits(0, 1, 1, 9), 23);
        DUE.is("41: like ones", x.waits(1, 1, 0, 0), 23);
        DUE.row("41: like ones", 0);
    }

    /** As few HOURS as can be in any of them. */
    private static void waitsFew() {
        FinedBySight x = DUE.fresh("...");
        DUE.fog("00" + NINES.substring(1));
        DUE.is("41: once a day, both", x.waits(0, 2, 0, 9), 0);
        DUE.row("41: once a day, both", 2);
        DUE.is("41: once a day, both, later", x.waits(0, 2, 5, 9), 19);
        DUE.row("41: once a day, both, later", 2);
        DUE.fog(FIRST_OF_23);
        DUE.is("41: 24 at the best", x.waits(0, 2, 0, 9), 23);
        DUE.row("41: 24 at the best", 24);
        DUE.is("41: the one HOUR", x.waits(0, 2, 1, 9), 22);
        DUE.row("41: the one HOUR", 24);
    }

    private static void waitsNone() {
        FinedBySight x = DUE.fresh("...");
        DUE.fog(FIRST_CLEAR);
        x.lit(0);
        DUE.is("41: 25 at the best", x.waits(0, 2, 0, 9), -2);
        DUE.row("41: the ROW stays", 0, 0);
        DUE.is("41: with 0", x.waits(0, 1, 0, 0), -2);
        DUE.is("41: a BLIND one", x.waits(0, 2, 0, -1), 23);
        DUE.row("41: a BLIND one", 2);
        DUE.town(".#.");
        DUE.is("41: no way", x.waits(0, 2, 0, -1), -2);
        DUE.row("41: the ROW stays again", 2);
    }
}
