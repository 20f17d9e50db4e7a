/** Promises 14 to 20: each sentence that names a boundary. */
public final class SightEdgesTest {
    private static final Due DUE = new Due();
    private static final String GRID = "....../....../....../....../....../......";
    private static final int ALL = 0x3FFFF;

    public static void main(String[] args) {
        litNoneAndAll();
        litHours();
        seesNoneAndAll();
        seesHours();
        owedEdges();
        seenNoneAndAll();
        seenIsSees();
        dearestFirst();
        dearestWalls();
        dearestRefused();
        lightMost();
        lightNone();
        lightRefused();
        needsLeast();
        needsNone();
        DUE.close("SightEdgesTest");
    }

    private static void litNoneAndAll() {
        FinedBySight x = DUE.fresh(GRID);
        DUE.is("14: none", x.lit(0), 0);
        DUE.row("14: none", 0, 0);
        for (int k = 0; k < 6; k++) {
            x.lamp(7 * k, 5);
        }
        DUE.is("14: all", x.lit(0), 36);
        DUE.row("14: all", ALL, ALL);
        DUE.town("9");
        DUE.is("14: one YARD", x.lit(0), 1);
        DUE.row("14: one YARD", 1, 0);
        DUE.town("##/##");
        DUE.is("14: WALLS alone", x.lit(0), 0);
        DUE.row("14: WALLS alone", 0, 0);
        DUE.town("9#/#.");
        DUE.is("14: no WALL is LIT", x.lit(0), 1);
        DUE.row("14: no WALL is LIT", 1, 0);
    }

    private static void litHours() {
        FinedBySight x = DUE.fresh("1.");
        DUE.fog("0001");
        DUE.is("14: HOUR 0", x.lit(0), 2);
        DUE.is("14: HOUR 3", x.lit(3), 0);
        DUE.is("14: HOUR 4", x.lit(4), 2);
        DUE.is("14: HOUR 999", x.lit(999), 0);
        DUE.is("14: HOUR 998", x.lit(998), 2);
        DUE.is("14: HOUR 1000", x.lit(1000), -1);
        DUE.is("14: HOUR -1", x.lit(-1), -1);
        DUE.row("14: the ROW stays", 3, 0);
    }

    private static void seesNoneAndAll() {
        FinedBySight x = DUE.fresh(GRID);
        DUE.is("15: none", x.sees(0, 0, 0), 0);
        DUE.row("15: none", 0, 0);
        DUE.is("15: the most that can be", x.sees(35, 0, 5), 10);
        DUE.row("15: the most that can be", Due.set(5, 11, 17), Due.set(5, 11, 12, 13, 14, 15, 16));
        DUE.is("15: no more with 9", x.sees(35, 0, 9), 10);
        DUE.is("15: one less with 4", x.sees(35, 0, 4), 8);
        DUE.town("#.#/###");
        DUE.is("15: between WALLS", x.sees(1, 0, 9), 0);
        DUE.row("15: between WALLS", 0, 0);
    }

    private static void seesHours() {
        FinedBySight x = DUE.fresh("......");
        DUE.fog("43210");
        for (int h = 0; h < 5; h++) {
            DUE.is("15: HOUR " + h, x.sees(0, h, 4), h);
            DUE.is("15: HOUR " + (995 + h), x.sees(0, 995 + h, 4), h);
        }
        DUE.row("15: HOUR 999", 0x1E, 0);
        DUE.is("15: HOUR 1000", x.sees(0, 1000, 4), -1);
        DUE.row("15: the ROW stays", 0x1E, 0);
    }

    private static void owedEdges() {
        FinedBySight x = DUE.fresh("....../.#....");
        x.lit(0);
        DUE.rule("h*100+s*10+c");
        DUE.is("16: the first of all", x.owed(0, 0, 0), 0);
        DUE.is("16: STRENGTH 9", x.owed(0, 0, 9), 90);
        DUE.is("16: HOUR 9, the last YARD", x.owed(11, 9, 8), 991);
        DUE.is("16: no more than 999", x.owed(11, 999, 9), 999);
        DUE.is("16: a BLIND one", x.owed(11, 999, -1), 0);
        DUE.is("16: a WALL", x.owed(7, 0, 0), -1);
        DUE.is("16: a WALL, a BLIND one", x.owed(7, 0, -1), -1);
        DUE.row("16: it tells no ROW", 0, 0);
    }

    private static void seenNoneAndAll() {
        FinedBySight x = DUE.fresh(GRID);
        DUE.is("17: from none", x.seen(35, 0, 0), 0);
        DUE.row("17: from none", 0, 0);
        DUE.is("17: from all that can be", x.seen(35, 0, 9), 10);
        DUE.row("17: from all that can be", Due.set(5, 11, 17), Due.set(5, 11, 12, 13, 14, 15, 16));
        DUE.is("17: a BLIND one", x.seen(35, 0, -1), 0);
        DUE.town("9#.");
        DUE.is("17: no WALL sees it", x.seen(0, 0, 9), 0);
        DUE.is("17: nor through it", x.seen(2, 0, 9), 0);
        DUE.is("17: a WALL is not told", x.seen(1, 0, 9), -1);
        DUE.row("17: the ROW stays", 0, 0);
    }

    /** From each YARD that SEES it, and from no other one. */
    private static void seenIsSees() {
        FinedBySight x = DUE.fresh("..2./.#../...1");
        DUE.fog("01");
        for (int y = 0; y < 12; y++) {
            for (int hour = 0; hour < 2; hour++) {
                long from = 0;
                for (int z = 0; z < 12; z++) {
                    boolean sees = x.sees(z, hour, 1) > 0 && (x.row(0) >> y & 1) != 0;
                    from |= sees ? 1 << z : 0;
                }
                DUE.is("17: YARD " + y, x.seen(y, hour, 1), y == 5 ? -1 : Long.bitCount(from));
                if (y != 5) {
                    DUE.row("17: YARD " + y + " in HOUR " + hour, from, 0);
                }
            }
            x = rebuilt();
        }
    }

    private static FinedBySight rebuilt() {
        FinedBySight x = DUE.fresh("..2./.#../...1");
        DUE.fog("01");
        return x;
    }

    /** Of equal ones the first. */
    private static void dearestFirst() {
        FinedBySight x = DUE.fresh("#.../....");
        DUE.rule("(c=3)*5+(c=6)*5");
        DUE.is("18: of equal ones the first", x.dearest(0, 0), 3);
        DUE.row("18: of equal ones the first", 5);
        DUE.rule("(c=3)*5+(c=6)*6");
        DUE.is("18: the dearer one", x.dearest(0, 0), 6);
        DUE.row("18: the dearer one", 6);
        DUE.rule("0");
        DUE.is("18: nothing is OWED", x.dearest(0, 0), 1);
        DUE.row("18: nothing is OWED", 0);
        DUE.rule("999-(c=1)");
        DUE.is("18: the most", x.dearest(0, 0), 2);
        DUE.row("18: the most", 999);
        DUE.rule("999+c");
        DUE.is("18: put to 999 all are equal", x.dearest(0, 0), 1);
        DUE.town("....");
        DUE.rule("9-c");
        DUE.is("18: YARD 0", x.dearest(0, 0), 0);
        DUE.row("18: YARD 0", 9);
        DUE.town("#.../....");
        DUE.rule("c");
        DUE.is("18: the last", x.dearest(0, 9), 7);
        DUE.row("18: the last", 7);
        DUE.is("18: a BLIND one owes 0 anywhere", x.dearest(0, -1), 1);
        DUE.row("18: a BLIND one", 0);
        DUE.rule("h");
        DUE.is("18: HOUR 999", x.dearest(999, 0), 1);
        DUE.row("18: HOUR 999", 999);
    }

    private static void dearestWalls() {
        FinedBySight x = DUE.fresh("#");
        x.lit(0);
        DUE.is("18: one WALL", x.dearest(0, 0), -2);
        DUE.is("18: one WALL, a BLIND one", x.dearest(999, -1), -2);
        DUE.row("18: the ROW stays", 0, 0);
        DUE.town("######/######/######/######/######/######");
        DUE.is("18: 36 WALLS", x.dearest(0, 0), -2);
        DUE.town("######/######/######/######/######/#####.");
        DUE.is("18: 35 WALLS", x.dearest(0, 0), 35);
    }

    private static void dearestRefused() {
        FinedBySight x = DUE.fresh("#");
        DUE.is("18: HOUR 1000, WALLS", x.dearest(1000, 0), -1);
        DUE.is("18: HOUR -1, WALLS", x.dearest(-1, 0), -1);
        DUE.is("18: STRENGTH 10, WALLS", x.dearest(0, 10), -1);
        DUE.is("18: STRENGTH -2, WALLS", x.dearest(0, -2), -1);
        DUE.row("18: no ROW");
    }

    /** Most YARDS LIT, of equal ones the first. */
    private static void lightMost() {
        FinedBySight x = DUE.fresh("....../......");
        DUE.is("19: of equal ones the first", x.light(0, 9), 0);
        DUE.row("19: of equal ones the first", 7);
        DUE.is("19: with 1 the middle", x.light(0, 1), 1);
        DUE.row("19: with 1 the middle", 4);
        DUE.is("19: with 2", x.light(0, 2), 2);
        DUE.row("19: with 2", 6);
        DUE.fog("2");
        DUE.is("19: as strong as FOG", x.light(0, 2), 0);
        DUE.row("19: nothing would be LIT", 0);
        DUE.is("19: one stronger", x.light(0, 3), 1);
        DUE.row("19: one stronger", 4);
        DUE.fog("9");
        DUE.is("19: 9 in FOG 9", x.light(0, 9), 0);
        DUE.row("19: 9 in FOG 9", 0);
        DUE.is("19: no LAMP is put up", x.count(3), 0);
    }

    /** A LAMP's own YARD is no such street, though a stronger one would light more there. */
    private static void lightNone() {
        FinedBySight x = DUE.fresh("1.....");
        DUE.is("19: not where a LAMP is", x.light(0, 9), 1);
        DUE.row("19: with what is LIT already", 6);
        DUE.town("123/#45/678");
        DUE.is("19: none", x.light(0, 9), -2);
        DUE.row("19: the ROW stays", 6);
        DUE.is("19: one goes out", x.lamp(7, 0), 7);
        DUE.is("19: the only one", x.light(0, 1), 7);
        DUE.row("19: the only one", 8);
        DUE.town("#");
        DUE.is("19: WALLS", x.light(0, 1), -2);
    }

    private static void lightRefused() {
        FinedBySight x = DUE.fresh("#");
        DUE.is("19: v 0, none", x.light(0, 0), -1);
        DUE.is("19: v 10, none", x.light(0, 10), -1);
        DUE.is("19: HOUR 1000, none", x.light(1000, 1), -1);
        DUE.is("19: HOUR -1, none", x.light(-1, 9), -1);
        DUE.row("19: no ROW");
    }

    private static void needsLeast() {
        FinedBySight x = DUE.fresh("......");
        for (int f = 0; f <= 9; f++) {
            x.sheet(2, 1, f, 0);
            for (int far = 1; far <= 5; far++) {
                String what = "20: " + far + " far in FOG " + f;
                DUE.is(what, x.needs(0, far, 0), f + far <= 9 ? f + far : -2);
                DUE.is(what + ", back", x.needs(far, 0, 999), f + far <= 9 ? f + far : -2);
            }
        }
        x = DUE.fresh("5....9");
        DUE.fog("8");
        DUE.is("20: LIT is seen with 0", x.needs(0, 4, 0), 0);
        DUE.is("20: LIT is seen with 0 from its LAMP", x.needs(5, 4, 0), 0);
        DUE.is("20: not LIT", x.needs(0, 1, 0), 9);
        DUE.is("20: not LIT, far", x.needs(0, 2, 0), -2);
    }

    private static void needsNone() {
        FinedBySight x = DUE.fresh("..#./....");
        x.lit(0);
        DUE.is("20: behind a WALL", x.needs(0, 3, 0), -2);
        DUE.is("20: round a corner", x.needs(0, 5, 0), -2);
        DUE.is("20: like ones", x.needs(0, 0, 0), -1);
        DUE.is("20: like ones, the last", x.needs(7, 7, 0), -1);
        DUE.is("20: like ones, another HOUR", x.needs(7, 7, 1000), -1);
        DUE.is("20: a WALL", x.needs(2, 0, 0), -1);
        DUE.is("20: to a WALL", x.needs(0, 2, 0), -1);
        DUE.row("20: it tells no ROW", 0, 0);
    }
}
