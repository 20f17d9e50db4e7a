/** Promises 14 to 20: what is seen and owed. */
public final class SightTest {
    private static final Due DUE = new Due();
    // YARDS:   0  1  2  3  4  5 / 6 .. 11 / 12 .. 17 / 18 .. 23 / 24 .. 29 / 30 .. 35
    private static final String WIDE = "....../.#..2./....../....../......";

    public static void main(String[] args) {
        lit();
        sees();
        owed();
        seen();
        dearest();
        light();
        needs();
        DUE.close("SightTest");
    }

    private static void lit() {
        FinedBySight x = DUE.fresh(WIDE);
        DUE.fog("0123");
        DUE.is("14: no FOG", x.lit(0), 7);
        // The LAMP at 10: up 4; right 11; down 16, 22; left 9, 8.
        DUE.row("14: no FOG", Due.set(10, 4, 11, 16, 9, 8), 1 << 4);
        DUE.is("14: FOG 1", x.lit(1), 5);
        DUE.row("14: FOG 1", Due.set(10, 4, 11, 16, 9), 0);
        DUE.is("14: FOG as its STRENGTH", x.lit(2), 0);
        DUE.row("14: FOG as its STRENGTH", 0, 0);
        DUE.is("14: thicker FOG", x.lit(999), 0);
        x.lit(1);
        DUE.is("14: 1000", x.lit(1000), -1);
        DUE.is("14: -1", x.lit(-1), -1);
        DUE.row("14: refused, the ROW stays", Due.set(10, 4, 11, 16, 9), 0);
        x.lamp(7, 9);
        DUE.is("14: a WALL takes no LAMP", x.lit(0), 7);
        x.lamp(12, 9);
        DUE.is("14: two LAMPS", x.lit(2), 10);
        DUE.row("14: two LAMPS", Due.set(12, 6, 0, 13, 14, 15, 16, 17), Due.set(0, 6));
    }

    private static void sees() {
        FinedBySight x = DUE.fresh(WIDE);
        DUE.fog("0123");
        DUE.is("15: its own lamp", x.sees(0, 0, 1), 2 + 1);
        DUE.row("15: its own lamp, and what is LIT", Due.set(1, 6, 4), 0);
        DUE.is("15: less FOG", x.sees(0, 1, 1), 1);
        DUE.row("15: less FOG", Due.set(4), 0);
        DUE.is("15: FOG puts out the LAMP", x.sees(0, 2, 2), 0);
        DUE.is("15: 9 goes to the edge", x.sees(0, 3, 9), 9);
        DUE.row("15: 9 goes to the edge", Due.set(1, 2, 3, 4, 5, 6, 12), Due.set(0, 6));
        DUE.is("15: as far as the WALL", x.sees(8, 0, 9), 3 + 1 + 3);
        DUE.row("15: as far as the WALL", Due.set(9, 10, 11, 2, 14), Due.set(2, 8));
        DUE.is("15: not itself, though LIT", x.sees(10, 0, 0), 6);
        DUE.row("15: not itself", Due.set(4, 11, 16, 9, 8), 1 << 4);
        DUE.is("15: BLIND", x.sees(10, 0, -1), 0);
        DUE.row("15: BLIND", 0, 0);
        int[][] wrong = {{7, 0, 1}, {30, 0, 1}, {-1, 0, 1}, {0, -1, 1}, {0, 1000, 1}, {0, 0, 10}, {0, 0, -2}};
        for (int[] w : wrong) {
            DUE.is("15: refused", x.sees(w[0], w[1], w[2]), -1);
            DUE.is("16: refused", x.owed(w[0], w[1], w[2]), -1);
            DUE.is("17: refused", x.seen(w[0], w[1], w[2]), -1);
        }
        DUE.row("15: the ROW stays", 0, 0);
    }

    private static void owed() {
        FinedBySight x = DUE.fresh(WIDE);
        DUE.fog("0123");
        DUE.is("16: y at first", x.owed(0, 3, 9), 9);
        DUE.rule("y*100+s*10+f");
        DUE.is("16: told", x.owed(0, 1, 1), 111);
        DUE.rule("h");
        DUE.is("16: HOUR", x.owed(0, 999, 1), 999);
        DUE.is("16: a BLIND one", x.owed(0, 999, -1), 0);
        DUE.rule("l*10+c");
        DUE.is("16: LIT", x.owed(10, 0, 0), 20);
        DUE.is("16: not LIT", x.owed(10, 2, 0), 10);
        DUE.rule("0-5");
        DUE.is("16: not below 0", x.owed(0, 0, 0), 0);
        DUE.rule("999*2");
        DUE.is("16: not above 999", x.owed(0, 0, 0), 999);
    }

    private static void seen() {
        FinedBySight x = DUE.fresh(WIDE);
        DUE.fog("0123");
        DUE.is("17: not LIT", x.seen(0, 0, 1), 2);
        DUE.row("17: not LIT", Due.set(1, 6), 0);
        DUE.is("17: LIT", x.seen(4, 0, 0), 5 + 4);
        DUE.row("17: LIT", Due.set(0, 1, 2, 3, 5, 10, 16), Due.set(4, 10));
        DUE.is("17: BLIND", x.seen(4, 0, -1), 0);
        DUE.row("17: BLIND", 0, 0);
        DUE.is("17: behind a WALL", x.seen(6, 3, 9), 1 + 3);
        DUE.row("17: behind a WALL", Due.set(0, 12), Due.set(0, 6));
    }

    private static void dearest() {
        FinedBySight x = DUE.fresh(".../.#./...");
        DUE.is("18: corners see most", x.dearest(0, 9), 0);
        DUE.row("18: corners", 4);
        DUE.rule("c");
        DUE.is("18: c", x.dearest(0, 3), 8);
        DUE.row("18: c", 8);
        DUE.rule("h-c");
        DUE.is("18: of equal ones the first", x.dearest(0, 3), 0);
        DUE.row("18: nothing", 0);
        DUE.rule("9");
        DUE.is("18: a BLIND one", x.dearest(0, -1), 0);
        DUE.row("18: a BLIND one", 0);
        DUE.is("18: HOUR", x.dearest(1000, 1), -1);
        DUE.is("18: STRENGTH", x.dearest(0, 10), -1);
        DUE.is("18: STRENGTH below", x.dearest(0, -2), -1);
        DUE.row("18: refused", 0);
        DUE.town("#./#.");
        DUE.is("18: the first that is no WALL", x.dearest(0, 1), 1);
        DUE.row("18: the first that is no WALL", 9);
        DUE.town("##");
        DUE.is("18: WALLS alone", x.dearest(0, 1), -2);
        DUE.row("18: WALLS alone", 9);
    }

    private static void light() {
        FinedBySight x = DUE.fresh("5../.#./...");
        DUE.fog("03");
        DUE.is("19: no FOG", x.light(0, 1), 8);
        // LIT are 0, 1, 2, 3, 6; at 8 come 5, 7, 8.
        DUE.row("19: no FOG", 8);
        DUE.is("19: FOG as strong", x.light(1, 3), 1);
        DUE.row("19: FOG as strong", 5);
        DUE.is("19: v 0", x.light(0, 0), -1);
        DUE.is("19: v 10", x.light(0, 10), -1);
        DUE.is("19: HOUR", x.light(1000, 1), -1);
        DUE.is("19: HOUR -1", x.light(-1, 1), -1);
        DUE.row("19: refused", 5);
        DUE.is("19: nothing changes", x.count(3), 1);
        DUE.town("#1/2#");
        DUE.is("19: no street without a LAMP", x.light(0, 5), -2);
        DUE.row("19: no street without a LAMP", 5);
    }

    private static void needs() {
        FinedBySight x = DUE.fresh("....../.#..2.");
        DUE.fog("03");
        DUE.is("20: five away", x.needs(0, 5, 0), 5);
        DUE.is("20: five away in FOG", x.needs(0, 5, 1), 8);
        DUE.is("20: LIT", x.needs(0, 4, 0), 0);
        DUE.is("20: put out", x.needs(0, 4, 1), 7);
        DUE.is("20: behind a corner", x.needs(0, 8, 0), -2);
        DUE.fog("5");
        DUE.is("20: too thick", x.needs(0, 5, 0), -2);
        DUE.is("20: thick", x.needs(0, 4, 0), 9);
        DUE.is("20: like ones", x.needs(0, 0, 0), -1);
        DUE.is("20: from a WALL", x.needs(7, 0, 0), -1);
        DUE.is("20: to a WALL", x.needs(0, 7, 0), -1);
        DUE.is("20: no YARD", x.needs(0, 12, 0), -1);
        DUE.is("20: HOUR", x.needs(0, 5, 1000), -1);
    }
}
