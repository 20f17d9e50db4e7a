/** Promises 34 to 41: ways. */
public final class WaysTest {
    private static final Due DUE = new Due();
    // YARDS 0 .. 4 / 5 (6 a WALL) 7 (8 a WALL) 9 / 10 .. 14
    private static final String TOWN = "...../.#.#./.....";
    private static final String SNAKE = "....../#####./....../.#####/......";

    public static void main(String[] args) {
        way();
        cheapest();
        cheapestTies();
        safe();
        buys();
        reach();
        tour();
        tourRefused();
        bears();
        waits();
        refused();
        DUE.close("WaysTest");
    }

    private static void way() {
        FinedBySight x = DUE.fresh(TOWN);
        DUE.is("34: how many", x.way(0, 14), 6);
        DUE.row("34: the least row", 1, 1, 1, 1, 2, 2);
        DUE.is("34: back", x.way(14, 0), 6);
        DUE.row("34: up comes first", 0, 0, 3, 3, 3, 3);
        DUE.is("34: like ones", x.way(7, 7), 0);
        DUE.row("34: like ones");
        x.lit(0);
        DUE.is("34: a WALL", x.way(0, 6), -1);
        DUE.is("34: from a WALL", x.way(8, 0), -1);
        DUE.is("34: no YARD", x.way(0, 15), -1);
        DUE.is("34: no YARD below", x.way(-1, 0), -1);
        DUE.row("34: refused", 0, 0);
        DUE.town(SNAKE);
        DUE.is("34: far", x.way(0, 29), 19);
        DUE.row("34: the first 10", 1, 1, 1, 1, 1, 2, 2, 3, 3, 3);
        DUE.town(".#.");
        DUE.is("34: no way", x.way(0, 2), -2);
        DUE.row("34: no way, the ROW stays", 1, 1, 1, 1, 1, 2, 2, 3, 3, 3);
        DUE.fog("9");
        DUE.town("....../####.#/......");
        DUE.is("34: FOG is no matter", x.way(0, 12), 10);
    }

    private static void cheapest() {
        FinedBySight x = DUE.fresh(TOWN);
        DUE.fog("03");
        DUE.is("35: both HOURS", x.cheapest(0, 1, 0, 2, 3), 4);
        DUE.row("35: one STEP", 1, 1);
        DUE.is("35: like ones", x.cheapest(0, 0, 0, 2, 5), 4);
        DUE.row("35: like ones", 0);
        DUE.is("35: within 0", x.cheapest(0, 0, 0, 2, 0), 4);
        DUE.is("35: waiting is cheaper", x.cheapest(0, 4, 0, 2, 24), 4 + 0 + 3 + 0 + 3 + 0);
        // In HOUR 4 at 3: 1, 2, 4; in HOUR 2 at 1: 0, 2, 3. A STEP up out of the town is the least staying.
        DUE.row("35: waiting is cheaper", 5, 0, 1, 1, 1, 1);
        DUE.is("35: no time for it", x.cheapest(0, 4, 0, 2, 4), 4 + 0 + 6 + 0 + 4);
        DUE.row("35: no time for it", 4, 1, 1, 1, 1);
        DUE.is("35: too few HOURS", x.cheapest(0, 4, 0, 2, 3), -2);
        DUE.row("35: too few HOURS, the ROW stays", 4, 1, 1, 1, 1);
        DUE.is("35: BLIND", x.cheapest(0, 4, 0, -1, 24), 0);
        DUE.row("35: BLIND, the soonest", 4, 1, 1, 1, 1);
        DUE.is("35: n 25", x.cheapest(0, 4, 0, 2, 25), -1);
        DUE.is("35: n -1", x.cheapest(0, 4, 0, 2, -1), -1);
        DUE.fog("");
        DUE.rule("1");
        DUE.town(SNAKE);
        DUE.is("35: far", x.cheapest(0, 29, 0, 0, 19), 20);
        DUE.row("35: the first 10", 19, 1, 1, 1, 1, 1, 2, 2, 3, 3, 3);
        DUE.is("35: one too few", x.cheapest(0, 29, 0, 0, 18), -2);
    }

    private static void cheapestTies() {
        FinedBySight x = DUE.fresh("..../..../....");
        DUE.rule("0");
        DUE.is("35: nothing", x.cheapest(0, 11, 0, 1, 24), 0);
        DUE.row("35: of as cheap ones the soonest, then the least", 5, 1, 1, 1, 2, 2);
        // The upper row is dear: down first.
        DUE.rule("(c<4)*50+1");
        DUE.is("35: around", x.cheapest(0, 3, 0, 1, 24), 51 + 1 + 1 + 1 + 1 + 51);
        DUE.row("35: around", 5, 2, 1, 1, 1, 0);
        DUE.is("35: not around", x.cheapest(0, 3, 0, 1, 4), 4 * 51);
        DUE.row("35: not around", 3, 1, 1, 1);
        // From HOUR 3 on nothing is owed: waiting in YARD 4 is dear, but walking costs the same.
        DUE.rule("(h<3)*7");
        DUE.is("35: till one is there first", x.cheapest(4, 5, 0, 1, 24), 14);
        DUE.row("35: till one is there first", 1, 1);
        DUE.rule("(c=5)*(h<9)*5+1");
        DUE.is("35: the HOUR of coming", x.cheapest(4, 5, 7, 1, 24), 1 + 1 + 1);
        DUE.row("35: the HOUR of coming, STEPS that stay", 2, 3, 1);
    }

    private static void safe() {
        FinedBySight x = DUE.fresh(TOWN);
        DUE.fog("03");
        DUE.is("36: in every other HOUR", x.safe(0, 4, 0, 2), 7);
        DUE.row("36: the least row", 1, 0, 1, 0, 1, 0, 1);
        DUE.is("36: from HOUR 1 on", x.safe(0, 4, 1, 2), 8);
        DUE.row("36: from HOUR 1 on", 0, 1, 0, 1, 0, 1, 0, 1);
        DUE.is("36: strong", x.safe(0, 4, 0, 4), 4);
        DUE.is("36: weak", x.safe(0, 4, 0, 0), -2);
        DUE.row("36: weak, the ROW stays", 1, 1, 1, 1);
        DUE.is("36: BLIND", x.safe(0, 4, 1, -1), 4);
        DUE.is("36: like ones", x.safe(7, 7, 0, 0), 0);
        DUE.row("36: like ones");
        DUE.fog("000000000");
        DUE.town(SNAKE);
        DUE.is("36: far", x.safe(0, 29, 0, 1), 19);
        DUE.row("36: the first 10", 1, 1, 1, 1, 1, 2, 2, 3, 3, 3);
        DUE.fog("1001");
        DUE.is("36: not within 24", x.safe(0, 29, 0, 1), -2);
        DUE.fog("999990");
        DUE.town("....");
        DUE.is("36: once in six HOURS", x.safe(0, 3, 0, 1), 18);
        DUE.is("36: within 24", x.safe(0, 3, 6, 9), 18);
        DUE.town(".....");
        DUE.is("36: 24", x.safe(0, 4, 0, 9), 24);
        DUE.town("......");
        DUE.is("36: 30", x.safe(0, 5, 0, 9), -2);
        DUE.fog("3");
        DUE.town("..9.");
        DUE.is("36: into the LIT", x.safe(0, 3, 0, 0), 3);
        DUE.town(".4..");
        DUE.is("36: out of the LIT", x.safe(0, 3, 0, 0), -2);
    }

    private static void buys() {
        FinedBySight x = DUE.fresh(TOWN);
        DUE.fog("03");
        DUE.is("37: the least lamp", x.buys(0, 4, 0, 7, 99), 1);
        // In every other HOUR at 0: 1, 5; at 1: 0, 2; at 2: 1, 3, 7; at 3: 2, 4.
        DUE.row("37: the least that is owed", 2 + 2 + 3 + 2);
        DUE.is("37: just enough", x.buys(0, 4, 0, 7, 9), 1);
        DUE.is("37: not enough", x.buys(0, 4, 0, 7, 8), -2);
        DUE.row("37: not enough, the ROW stays", 9);
        DUE.is("37: in a hurry", x.buys(0, 4, 0, 4, 99), 4);
        DUE.row("37: in a hurry", 6 + 2 + 6 + 2 + 6);
        DUE.is("37: like ones", x.buys(0, 0, 0, 0, 0), 0);
        DUE.row("37: like ones", 0);
        DUE.rule("s=3");
        DUE.is("37: a dear one is passed over", x.buys(0, 1, 0, 1, 1), 1);
        DUE.rule("9-s");
        DUE.is("37: stronger may be cheaper", x.buys(0, 1, 0, 1, 4), 7);
        DUE.row("37: stronger may be cheaper", 4);
        DUE.is("37: the strongest", x.buys(0, 1, 0, 1, 0), 9);
        DUE.is("37: n 25", x.buys(0, 4, 0, 25, 99), -1);
        DUE.is("37: n -1", x.buys(0, 4, 0, -1, 99), -1);
        DUE.is("37: purse 10000", x.buys(0, 4, 0, 7, 10000), -1);
        DUE.is("37: purse -1", x.buys(0, 4, 0, 7, -1), -1);
        DUE.rule("999");
        DUE.is("37: a full purse", x.buys(0, 0, 0, 24, 9999), 0);
        DUE.row("37: a full purse", 999);
    }

    private static void reach() {
        FinedBySight x = DUE.fresh(TOWN);
        DUE.fog("03");
        DUE.is("38: three HOURS", x.reach(0, 0, 2, 3), 5);
        DUE.row("38: they", Due.set(0, 1, 2, 5, 10), 0);
        DUE.is("38: none", x.reach(0, 0, 2, 0), 1);
        DUE.row("38: that one", 1, 0);
        DUE.is("38: in the dark", x.reach(0, 0, 0, 24), 1);
        DUE.is("38: BLIND", x.reach(0, 0, -1, 24), 13);
        DUE.is("38: n 25", x.reach(0, 0, 2, 25), -1);
        DUE.is("38: n -1", x.reach(0, 0, 2, -1), -1);
        DUE.is("38: a WALL", x.reach(6, 0, 2, 1), -1);
        DUE.is("38: HOUR", x.reach(0, 1000, 2, 1), -1);
        DUE.is("38: STRENGTH", x.reach(0, 0, 10, 1), -1);
        DUE.fog("");
        DUE.town("....../....../....../....../....../......");
        DUE.is("38: all", x.reach(0, 999, 1, 10), 36);
        DUE.row("38: all", (1 << 18) - 1, (1 << 18) - 1);
    }

    private static int list(int... yards) {
        int list = 0;
        for (int k = 0; k < yards.length; k++) {
            list |= yards[k] << 6 * k;
        }
        return list;
    }

    private static void tour() {
        FinedBySight x = DUE.fresh(".....");
        DUE.is("39: none", x.tour(2, 0, 1, 0, 77), 0);
        DUE.row("39: none");
        DUE.is("39: that one", x.tour(2, 0, 1, 1, 2), 0);
        DUE.row("39: that one", 2);
        DUE.is("39: both ends", x.tour(1, 0, 1, 2, list(4, 0)), 5);
        DUE.row("39: the near one first", 0, 4);
        DUE.is("39: both ends from the middle", x.tour(2, 0, 1, 2, list(4, 0)), 6);
        DUE.row("39: the least row", 0, 4);
        DUE.is("39: each once", x.tour(3, 0, 1, 4, list(0, 4, 0, 4)), 5);
        DUE.row("39: each once", 4, 0);
        DUE.is("39: as one goes by", x.tour(2, 0, 1, 4, list(4, 3, 2, 0)), 6);
        DUE.row("39: as one goes by, that one first", 2, 0, 3, 4);
        DUE.is("39: higher bits are no matter", x.tour(2, 0, 1, 1, list(3, 63)), 1);
        DUE.is("39: a low bit set", x.tour(2, 0, 1, 2, list(3, 4) | 0x80000000), 2);
        DUE.row("39: both", 3, 4);
        DUE.town(".../.../...");
        DUE.is("39: corners", x.tour(4, 0, 1, 4, list(8, 6, 2, 0)), 8);
        DUE.row("39: corners, the least row", 0, 2, 8, 6);
        DUE.fog("09");
        DUE.is("39: FOG", x.tour(0, 0, 1, 2, list(8, 1)), 7);
        DUE.row("39: FOG", 1, 8);
        DUE.is("39: in the dark", x.tour(0, 0, 0, 2, list(8, 0)), -2);
        DUE.row("39: in the dark, the ROW stays", 1, 8);
        DUE.fog("000009");
        DUE.town("......");
        DUE.is("39: within 24", x.tour(1, 5, 9, 2, list(0, 5)), 1 + 1 + 4 + 1 + 1);
        DUE.fog("999990");
        DUE.is("39: 24", x.tour(0, 0, 9, 1, 4), 24);
        DUE.is("39: 30", x.tour(0, 0, 9, 1, 5), -2);
    }

    private static void tourRefused() {
        FinedBySight x = DUE.fresh(".#.");
        DUE.is("39: n 5", x.tour(0, 0, 1, 5, 0), -1);
        DUE.is("39: n -1", x.tour(0, 0, 1, -1, 0), -1);
        DUE.is("39: a WALL", x.tour(0, 0, 1, 1, 1), -1);
        DUE.is("39: a WALL last", x.tour(0, 0, 1, 4, list(0, 2, 2, 1)), -1);
        DUE.is("39: no YARD", x.tour(0, 0, 1, 2, list(0, 3)), -1);
        DUE.is("39: 63", x.tour(0, 0, 1, 1, -1), -1);
        DUE.is("39: from a WALL", x.tour(1, 0, 1, 0, 0), -1);
        DUE.is("39: HOUR", x.tour(0, 1000, 1, 0, 0), -1);
        DUE.is("39: STRENGTH", x.tour(0, 0, -2, 0, 0), -1);
        DUE.is("39: there is no way", x.tour(0, 0, 1, 1, 2), -2);
    }

    private static void bears() {
        FinedBySight x = DUE.fresh(TOWN);
        DUE.fog("9");
        DUE.is("40: one less", x.bears(0, 4, 5), 4);
        DUE.row("40: HOURS", 4);
        DUE.is("40: 9", x.bears(0, 14, 9), 8);
        DUE.row("40: 9", 6);
        DUE.is("40: in none", x.bears(0, 4, 0), -2);
        DUE.row("40: in none, the ROW stays", 6);
        DUE.is("40: BLIND", x.bears(0, 4, -1), 9);
        DUE.row("40: BLIND", 4);
        DUE.is("40: like ones", x.bears(3, 3, 0), 9);
        DUE.row("40: like ones", 0);
        for (int y = 0; y < 5; y++) {
            x.lamp(y, 4);
        }
        DUE.is("40: by LAMPS", x.bears(0, 4, 1), 3);
        // In FOG 2 the LAMP at 4 still lights 9 and 14, in FOG 3 but 9.
        DUE.is("40: by LAMPS, round a corner", x.bears(0, 14, 2), 2);
        DUE.row("40: by LAMPS, round a corner", 6);
        x.rope(0, 2);
        x.rope(2, 4);
        DUE.is("40: by ROPES", x.bears(0, 4, 0), 9);
        DUE.is("40: FOG stays", x.thick(0), 9);
        DUE.is("40: a WALL", x.bears(0, 6, 0), -1);
        DUE.is("40: from a WALL", x.bears(6, 0, 0), -1);
        DUE.is("40: STRENGTH", x.bears(0, 4, 10), -1);
    }

    private static void waits() {
        FinedBySight x = DUE.fresh(TOWN);
        DUE.fog("03");
        DUE.is("41: the last HOUR", x.waits(0, 4, 0, 2), 22);
        DUE.row("41: how few", 7);
        DUE.is("41: from HOUR 1 on", x.waits(0, 4, 1, 2), 23);
        DUE.row("41: as few", 7);
        DUE.is("41: over 999", x.waits(0, 4, 999, 2), 23);
        DUE.fog("033333333333333333333333");
        DUE.is("41: once a day", x.waits(0, 1, 5, 2), 19);
        DUE.row("41: once a day", 1);
        x.lit(0);
        DUE.is("41: now or a day later", x.waits(0, 1, 0, 2), 0);
        DUE.row("41: now or a day later", 1);
        DUE.fog("3");
        x.lamp(0, 4);
        DUE.is("41: each HOUR", x.waits(0, 1, 0, 2), 23);
        x.lamp(0, 0);
        DUE.fog("999990");
        DUE.town(".....");
        DUE.is("41: 19 at best", x.waits(0, 4, 0, 9), 23);
        DUE.row("41: 19 at best", 19);
        DUE.fog("999999999999999999999990");
        DUE.town("...");
        DUE.is("41: not twice a day", x.waits(0, 2, 0, 9), -2);
        DUE.fog("99999999999999999999990");
        DUE.is("41: twice in 24 HOURS", x.waits(0, 2, 0, 9), 22);
        DUE.row("41: twice in 24 HOURS", 24);
        DUE.is("41: like ones", x.waits(0, 0, 5, 0), 23);
        DUE.row("41: like ones", 0);
        DUE.is("41: in none", x.waits(0, 2, 0, 0), -2);
        DUE.row("41: in none, the ROW stays", 0);
    }

    private static void refused() {
        FinedBySight x = DUE.fresh(TOWN);
        x.lit(0);
        int[][] wrong = {{6, 0, 0, 1}, {0, 6, 0, 1}, {15, 0, 0, 1}, {0, -1, 0, 1}, {0, 4, 1000, 1}, {0, 4, -1, 1},
            {0, 4, 0, 10}, {0, 4, 0, -2}};
        for (int[] w : wrong) {
            DUE.is("35: refused", x.cheapest(w[0], w[1], w[2], w[3], 9), -1);
            DUE.is("36: refused", x.safe(w[0], w[1], w[2], w[3]), -1);
            DUE.is("41: refused", x.waits(w[0], w[1], w[2], w[3]), -1);
            DUE.is("42: refused", x.chance(w[0], w[1], w[2], w[3], 1), -1);
            DUE.is("44: refused", x.mean(w[0], w[1], w[2], w[3], 1), -1);
            DUE.is("47: refused", x.lead(w[0], w[1], w[2], w[3], 1), -1);
        }
        for (int k = 0; k < 6; k++) {
            DUE.is("37: refused", x.buys(wrong[k][0], wrong[k][1], wrong[k][2], 9, 9), -1);
        }
        DUE.row("35 to 47: the ROW stays", 0, 0);
    }
}
