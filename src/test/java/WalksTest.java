/** Promises 21 to 33: walks. */
public final class WalksTest {
    private static final Due DUE = new Due();
    private static final String THIRTY = "rlrlrlrlrlrlrlrlrlrlrlrlrlrlrl";
    // YARDS 0 .. 4 / 5 (6 a WALL) 7 (8 a WALL) 9 / 10 .. 14
    private static final String TOWN = "...../.#.#./.....";

    public static void main(String[] args) {
        walk();
        walkFaults();
        drop();
        at();
        bill();
        saw();
        dims();
        adopt();
        hidden();
        hit();
        brush();
        hits();
        takings();
        fee();
        refused();
        DUE.close("WalksTest");
    }

    private static void walk() {
        FinedBySight x = DUE.fresh(TOWN);
        DUE.is("21: each STEP", DUE.walk("rrddwwll", 0, 0, 0, 0), 10);
        DUE.is("21: not through WALLS", DUE.walk("rdrdr", 1, 0, 0, 0), 7);
        DUE.is("21: not outside", DUE.walk("ullu", 2, 0, 0, 0), 0);
        DUE.is("21: not round the edge", DUE.walk("r", 2, 4, 0, 0), 4);
        DUE.is("21: empty", DUE.walk("", 3, 9, 999, -1), 9);
        DUE.is("21: there in that HOUR", x.at(3, 999), 9);
        DUE.is("21: not ahead of it", x.at(3, 998), -2);
        DUE.is("21: told", x.count(5), 15);
        DUE.is("21: 30 STEPS", DUE.walk(THIRTY, 0, 0, 0, 9), 0);
        DUE.is("21: till behind the last", x.at(0, 30), 0);
        DUE.is("21: no longer", x.at(0, 31), -2);
        DUE.is("21: emptied", x.count(8), 0);
    }

    private static void walkFaults() {
        FinedBySight x = DUE.fresh(TOWN);
        DUE.walk("rr", 0, 0, 5, 1);
        DUE.is("21: 31 STEPS", DUE.walk(THIRTY + "r", 0, 1, 0, 0), -31);
        DUE.is("21: 30 and another sign", DUE.walk(THIRTY + "x", 0, 1, 0, 0), -31);
        DUE.is("21: another sign ahead of 30", DUE.walk("rx" + THIRTY, 0, 1, 0, 0), -2);
        DUE.is("21: a great letter", DUE.walk("U", 0, 1, 0, 0), -1);
        DUE.is("21: emptied", x.count(8), 0);
        int[][] wrong = {{4, 0, 0, 0}, {-1, 0, 0, 0}, {0, 6, 0, 0}, {0, 15, 0, 0}, {0, -1, 0, 0}, {0, 0, 1000, 0},
            {0, 0, -1, 0}, {0, 0, 0, 10}, {0, 0, 0, -2}};
        for (int[] w : wrong) {
            DUE.is("21: asked first", DUE.walk("x", w[0], w[1], w[2], w[3]), -100);
            DUE.is("21: emptied too", x.count(8), 0);
        }
        DUE.is("21: as it was", x.at(0, 7), 2);
        DUE.is("21: none told", x.count(5), 1);
    }

    private static void drop() {
        FinedBySight x = DUE.fresh(TOWN);
        DUE.walk("rr", 2, 0, 5, 1);
        DUE.is("22: none told", x.drop(0), false);
        DUE.is("22: none such", x.drop(4), false);
        DUE.is("22: none such below", x.drop(-1), false);
        DUE.is("22: told", x.drop(2), true);
        DUE.is("22: given up", x.count(5), 0);
        DUE.is("22: once", x.drop(2), false);
        DUE.is("22: nowhere", x.at(2, 5), -1);
    }

    private static void at() {
        FinedBySight x = DUE.fresh(TOWN);
        DUE.walk("rrw", 1, 0, 998, 1);
        int[] hours = {997, 998, 999, 1000, -1};
        int[] due = {-2, 0, 1, -1, -1};
        for (int k = 0; k < hours.length; k++) {
            DUE.is("23: at HOUR " + hours[k], x.at(1, hours[k]), due[k]);
        }
        DUE.is("23: none told", x.at(0, 998), -1);
        DUE.is("23: none such", x.at(4, 998), -1);
        DUE.is("23: none such below", x.at(-1, 998), -1);
    }

    private static void bill() {
        FinedBySight x = DUE.fresh(TOWN);
        DUE.fog("03");
        DUE.walk("rrr", 0, 0, 0, 2);
        // YARD 0: 1, 2, 5, 10; nothing in FOG 3; YARD 2: 0, 1, 3, 4, 7, 12; nothing.
        DUE.is("24: owed", x.bill(0), 4 + 6);
        DUE.row("24: one STEP in FOG", 4, 1);
        DUE.walk("ulwrr", 1, 0, 1, 0);
        DUE.is("24: nothing is seen", x.bill(1), 0);
        DUE.row("24: staying is SAFE, also at the edge", 6, 2);
        x.rope(0, 1);
        x.bill(1);
        DUE.row("24: on a ROPE", 6, 1);
        x.rope(1, 4);
        x.bill(1);
        DUE.row("24: on another one", 6, 0);
        x.unrope();
        x.unrope();
        x.rope(0, 10);
        x.bill(1);
        DUE.row("24: on none of them", 6, 2);
        DUE.rule("9");
        DUE.walk("rrr", 2, 0, 0, -1);
        DUE.is("24: BLIND", x.bill(2), 0);
        DUE.row("24: BLIND", 4, 0);
        DUE.rule("h/100");
        DUE.walk("rrr", 2, 0, 998, 1);
        DUE.is("24: HOURS go on", x.bill(2), 9 + 9 + 10 + 10);
    }

    private static void saw() {
        FinedBySight x = DUE.fresh(TOWN);
        DUE.fog("03");
        DUE.walk("rrr", 0, 0, 0, 2);
        DUE.is("25: in one HOUR at least", x.saw(0), 9);
        DUE.row("25: they", Due.set(0, 1, 2, 3, 4, 5, 7, 10, 12), 0);
        DUE.walk("", 1, 7, 0, 9);
        DUE.is("25: not its own YARD", x.saw(1), 2);
        DUE.row("25: not its own YARD", Due.set(2, 12), 0);
        DUE.walk("rrr", 2, 0, 0, -1);
        DUE.is("25: BLIND", x.saw(2), 0);
        DUE.row("25: BLIND", 0, 0);
    }

    private static void dims() {
        FinedBySight x = DUE.fresh(TOWN);
        DUE.fog("03");
        DUE.walk("rrr", 0, 0, 0, -1);
        DUE.is("26: through FOG 3", x.dims(0), 4);
        // YARD 0: 1, 2, 3, 4, 5, 10; YARD 1: 0, 2; YARD 2: 0, 1, 3, 4, 7, 12; YARD 3: 2, 4.
        DUE.row("26: owed with 4", 6 + 2 + 6 + 2);
        x.rope(0, 4);
        DUE.is("26: on a ROPE", x.dims(0), 0);
        DUE.row("26: owed with 0", 0);
        DUE.fog("9");
        DUE.is("26: on a ROPE in FOG 9", x.dims(0), 0);
        x.unrope();
        x.hits();
        DUE.is("26: with none", x.dims(0), -2);
        DUE.row("26: with none, the ROW stays", 0);
        DUE.walk("wlu", 0, 0, 0, 5);
        DUE.is("26: staying", x.dims(0), 0);
        DUE.fog("8");
        DUE.walk("r", 0, 0, 0, 5);
        DUE.is("26: the strongest", x.dims(0), 9);
    }

    private static void adopt() {
        FinedBySight x = DUE.fresh(TOWN);
        DUE.fog("03");
        x.lit(0);
        DUE.is("27: STEPS", x.adopt(2, 0, 4, 0, 2), 7);
        DUE.row("27: the ROW stays", 0, 0);
        int[] places = {0, 1, 1, 2, 2, 3, 3, 4, -2};
        for (int h = 0; h < places.length; h++) {
            DUE.is("27: at HOUR " + h, x.at(2, h), places[h]);
        }
        DUE.is("27: with its STRENGTH", x.bill(2), 4 + 6 + 3 + 3);
        DUE.is("27: none", x.adopt(2, 0, 4, 0, 0), -2);
        DUE.is("27: as it was", x.at(2, 7), 4);
        DUE.is("27: like ones", x.adopt(1, 3, 3, 999, 0), 0);
        DUE.is("27: there in that HOUR", x.at(1, 999), 3);
        DUE.is("27: no such WALK", x.adopt(4, 0, 4, 0, 2), -1);
        DUE.is("27: no such WALK below", x.adopt(-1, 0, 4, 0, 2), -1);
        DUE.is("27: a WALL", x.adopt(0, 0, 6, 0, 2), -1);
        DUE.is("27: from a WALL", x.adopt(0, 8, 0, 0, 2), -1);
        DUE.is("27: HOUR", x.adopt(0, 0, 4, 1000, 2), -1);
        DUE.is("27: STRENGTH", x.adopt(0, 0, 4, 0, 10), -1);
        DUE.is("27: told", x.count(5), 6);
        DUE.fog("");
        DUE.town("....../#####./....../.#####/......");
        DUE.is("27: all its STEPS, not 10 alone", x.adopt(0, 0, 29, 0, 1), 5 + 2 + 5 + 2 + 5);
        DUE.is("27: where it ends", x.at(0, 19), 29);
    }

    private static void hidden() {
        FinedBySight x = DUE.fresh(TOWN);
        DUE.fog("03");
        DUE.is("28: no WALKS", x.hidden(2, 0, 24), (1 << 24) - 1);
        DUE.walk("rrr", 0, 0, 0, 2);
        // Seen in HOUR 0 from 0, in it in HOUR 2; behind HOUR 3 the WALK is gone.
        DUE.is("28: seen, been in", x.hidden(2, 0, 6), 0b111010);
        DUE.is("28: from HOUR 2 on", x.hidden(2, 2, 2), 0b10);
        DUE.is("28: in it in FOG", x.hidden(1, 1, 1), 0);
        DUE.walk("ww", 1, 2, 0, -1);
        DUE.is("28: a BLIND one is in it", x.hidden(2, 0, 4), 0b1000);
        DUE.is("28: a BLIND one sees nothing", x.hidden(12, 0, 2), 0b11);
        DUE.is("28: none of 0", x.hidden(2, 0, 0), 0);
        DUE.is("28: over 999", x.hidden(2, 999, 3), 7);
        DUE.is("28: 25", x.hidden(2, 0, 25), -1);
        DUE.is("28: -1", x.hidden(2, 0, -1), -1);
        DUE.is("28: a WALL", x.hidden(6, 0, 1), -1);
        DUE.is("28: no YARD", x.hidden(15, 0, 1), -1);
        DUE.is("28: HOUR", x.hidden(0, 1000, 1), -1);
    }

    private static void hit() {
        FinedBySight x = DUE.fresh(".....");
        DUE.walk("rrr", 0, 0, 0, 9);
        DUE.walk("lll", 1, 4, 0, 0);
        DUE.is("29: the first HOUR", x.hit(0, 1), 2);
        DUE.row("29: who saw is to blame", 2, 0b01);
        DUE.is("29: the other way", x.hit(1, 0), 2);
        DUE.row("29: who saw is to blame still", 2, 0b01);
        DUE.walk("lll", 3, 4, 0, 2);
        x.hit(0, 3);
        DUE.row("29: both saw", 2, 0b1001);
        DUE.walk("rrr", 0, 0, 0, 1);
        x.hit(0, 3);
        DUE.row("29: the other one saw", 2, 0b1000);
        x.hit(0, 1);
        DUE.row("29: none saw", 2, 0b11);
        DUE.walk("", 2, 2, 2, 9);
        x.hit(0, 2);
        DUE.row("29: one was not there yet", 2, 0b101);
        DUE.walk("", 1, 2, 2, 9);
        DUE.is("29: both begin there", x.hit(1, 2), 2);
        DUE.row("29: both", 2, 0b110);
        DUE.walk("w", 1, 3, 0, 9);
        DUE.walk("w", 2, 3, 0, 9);
        DUE.is("29: in HOUR 0", x.hit(1, 2), 0);
        DUE.row("29: nothing was ahead", 3, 0b110);
        DUE.walk("r", 1, 0, 0, 0);
        DUE.walk("w", 2, 1, 0, 1);
        DUE.is("29: from YARD 0", x.hit(1, 2), 1);
        DUE.row("29: YARD 0 was seen", 1, 0b100);
        x.hit(2, 1);
        DUE.row("29: YARD 0 was seen, the other way", 1, 0b100);
        DUE.walk("r", 1, 0, 999, 9);
        DUE.walk("", 2, 1, 999, 0);
        DUE.walk("l", 3, 2, 999, 0);
        DUE.is("29: behind HOUR 999", x.hit(1, 3), 1000);
        DUE.row("29: behind HOUR 999", 1, 0b10);
        DUE.is("29: one is gone by then", x.hit(1, 2), -2);
        DUE.row("29: the ROW stays", 1, 0b10);
    }

    private static void brush() {
        FinedBySight x = DUE.fresh("....");
        DUE.walk("wrl", 0, 1, 5, 0);
        DUE.walk("wwlr", 1, 2, 4, 0);
        x.lit(0);
        DUE.is("30: when they begin it", x.brush(0, 1), 6);
        DUE.is("30: the other way", x.brush(1, 0), 6);
        DUE.row("30: the ROW stays", 0, 0);
        DUE.is("30: no hit", x.hit(0, 1), -2);
        DUE.walk("r", 2, 1, 6, 0);
        DUE.is("30: with the second", x.brush(2, 1), 6);
        DUE.walk("", 2, 1, 6, 0);
        DUE.is("30: gone ahead of it", x.brush(2, 1), -2);
        DUE.walk("w", 2, 1, 6, 0);
        DUE.walk("w", 3, 1, 6, 0);
        DUE.is("30: in one YARD nothing is changed", x.brush(2, 3), -2);
    }

    private static void hits() {
        FinedBySight x = DUE.fresh(".....");
        DUE.is("31: no WALKS", x.hits(), 0);
        DUE.row("31: no WALKS", 0);
        DUE.walk("rrr", 0, 0, 0, 9);
        DUE.walk("lll", 1, 4, 0, 0);
        DUE.is("31: one pair", x.hits(), 1);
        DUE.row("31: who saw", 1);
        DUE.walk("w", 2, 4, 0, 0);
        DUE.is("31: two pairs", x.hits(), 2);
        DUE.row("31: both", 0b111);
        DUE.walk("", 3, 0, 9, 0);
        DUE.is("31: a WALK for itself", x.hits(), 2);
        x.drop(1);
        DUE.is("31: none", x.hits(), 0);
        DUE.row("31: none", 0);
    }

    private static void takings() {
        FinedBySight x = DUE.fresh(TOWN);
        DUE.walk("rrr", 0, 0, 0, 2);
        DUE.walk("w", 2, 7, 1, 9);
        DUE.walk("www", 3, 7, 0, -1);
        DUE.is("32: HOUR 0", x.takings(0), 4);
        DUE.row("32: HOUR 0", 2);
        DUE.is("32: HOUR 1", x.takings(1), 3 + 2);
        DUE.row("32: HOUR 1", 3);
        DUE.is("32: HOUR 4", x.takings(4), 0);
        DUE.row("32: HOUR 4", 0);
        x.takings(0);
        DUE.is("32: HOUR 1000", x.takings(1000), -1);
        DUE.is("32: HOUR -1", x.takings(-1), -1);
        DUE.row("32: refused", 2);
    }

    private static void fee() {
        FinedBySight x = DUE.fresh("..");
        DUE.is("33: nothing is owed", x.fee(1), -2);
        DUE.is("33: nothing is asked", x.fee(0), 1);
        DUE.walk("ww", 0, 0, 0, 1);
        DUE.walk("wwwww", 3, 0, 0, 1);
        x.lit(0);
        // 3 and 6 HOURS, 1 each.
        DUE.is("33: 9", x.fee(9), 1);
        DUE.is("33: 10", x.fee(10), 2);
        DUE.is("33: 999 times", x.fee(8991), 999);
        DUE.is("33: 1000 times", x.fee(8992), -2);
        DUE.is("33: -1", x.fee(-1), -1);
        DUE.is("33: 100000", x.fee(100000), -1);
        DUE.rule("999");
        DUE.is("33: 99999", x.fee(99999), 12);
        DUE.row("33: the ROW stays", 0, 0);
    }

    private static void refused() {
        FinedBySight x = DUE.fresh(TOWN);
        DUE.walk("r", 1, 0, 0, 1);
        x.takings(0);
        int[] wrong = {0, 4, -1, Integer.MIN_VALUE, Integer.MAX_VALUE};
        for (int i : wrong) {
            DUE.is("24: refused", x.bill(i), -1);
            DUE.is("25: refused", x.saw(i), -1);
            DUE.is("26: refused", x.dims(i), -1);
            DUE.is("29: refused", x.hit(i, 1), -1);
            DUE.is("29: refused, the second", x.hit(1, i), -1);
            DUE.is("30: refused", x.brush(i, 1), -1);
            DUE.is("30: refused, the second", x.brush(1, i), -1);
        }
        DUE.is("29: like ones", x.hit(1, 1), -1);
        DUE.is("30: like ones", x.brush(1, 1), -1);
        DUE.row("24 to 30: the ROW stays", 1);
    }
}
