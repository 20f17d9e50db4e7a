/** Promises 42 to 44: chances. */
public final class ChancesTest {
    private static final Due DUE = new Due();

    public static void main(String[] args) {
        chance();
        chanceSteps();
        likely();
        mean();
        meanTies();
        DUE.close("ChancesTest");
    }

    private static void chance() {
        FinedBySight x = DUE.fresh("....");
        x.err(4);
        DUE.is("42: no HOURS", x.chance(0, 3, 0, 0, 0), 0);
        DUE.row("42: no HOURS", 0, 1, 4);
        DUE.is("42: there", x.chance(3, 3, 0, 0, 8), 0);
        DUE.row("42: there", 1, 1, 4);
        DUE.is("42: one STEP", x.chance(0, 1, 0, 0, 1), 0);
        DUE.row("42: one STEP that ERRS", 3, 5, 1);
        x.chance(0, 1, 0, 0, 2);
        DUE.row("42: two tries", 21, 25, 1);
        x.chance(0, 1, 0, 1, 1);
        DUE.row("42: SAFE", 1, 1, 1);
        x.chance(0, 1, 0, -1, 1);
        DUE.row("42: BLIND", 1, 1, 1);
        x.chance(0, 3, 0, 0, 3);
        DUE.row("42: three STEPS that ERR", 27, 125, 1);
        x.chance(0, 3, 0, 0, 2);
        DUE.row("42: too far", 0, 1, 0);
        x.err(9);
        x.chance(0, 1, 0, 0, 8);
        DUE.row("42: 8 tries", 100000000 - 43046721, 100000000, 1);
        DUE.is("42: n 9", x.chance(0, 1, 0, 0, 9), -1);
        DUE.is("42: n -1", x.chance(0, 1, 0, 0, -1), -1);
        DUE.row("42: refused", 100000000 - 43046721, 100000000, 1);
        x.err(0);
        x.chance(0, 3, 0, 0, 3);
        DUE.row("42: ERR 0", 1, 1, 1);
    }

    private static void chanceSteps() {
        FinedBySight x = DUE.fresh(".../.../...");
        x.err(5);
        DUE.fog("09");
        x.chance(0, 2, 1, 1, 3);
        // HOUR 1: FOG; HOUR 2: clear; HOUR 3: FOG. By 1: 1/2 + .. ; staying at first gives but one try.
        DUE.row("42: FOG by HOURS", 3, 4, 1);
        x.chance(4, 8, 0, 1, 2);
        DUE.row("42: of as good ones the least", 1, 2, 1);
        DUE.fog("");
        x.chance(4, 8, 0, 1, 3);
        DUE.row("42: time enough", 1, 1, 1);
        x.chance(4, 8, 0, 1, 4);
        DUE.row("42: so much time that the least STEP will do", 1, 1, 0);
        x.chance(0, 1, 0, 1, 2);
        DUE.row("42: a STEP out of the town is a STEP", 1, 1, 0);
        x.rope(4, 5);
        x.rope(5, 8);
        x.chance(4, 8, 0, 0, 2);
        DUE.row("42: by ROPES", 1, 1, 1);
        x.unrope();
        x.unrope();
        x.rope(4, 7);
        x.chance(4, 8, 0, 0, 2);
        DUE.row("42: by half a ROPE", 1, 2, 2);
        DUE.town(".#.");
        x.chance(0, 2, 0, 9, 8);
        DUE.row("42: no way", 0, 1, 0);
    }

    private static void likely() {
        FinedBySight x = DUE.fresh("....");
        x.err(5);
        DUE.walk("rrr", 0, 0, 0, 0);
        DUE.is("43: three STEPS that ERR", x.likely(0), 0);
        DUE.row("43: three STEPS that ERR", 1, 8);
        DUE.walk("rrrr", 1, 0, 0, 0);
        x.likely(1);
        DUE.row("43: one STEP against the edge", 5, 16);
        DUE.walk("rl", 2, 1, 0, 0);
        x.likely(2);
        // Both go, or none does: where one erred, the STEPS go on as told.
        DUE.row("43: there and back", 1, 2);
        DUE.walk("lr", 2, 0, 0, 0);
        x.likely(2);
        DUE.row("43: against the edge, then on", 1, 2);
        DUE.walk("rrr", 3, 0, 0, 1);
        x.likely(3);
        DUE.row("43: SAFE", 1, 1);
        DUE.walk("rrr", 3, 0, 0, -1);
        x.likely(3);
        DUE.row("43: BLIND", 1, 1);
        DUE.walk("", 3, 0, 0, 0);
        x.likely(3);
        DUE.row("43: no STEPS", 1, 1);
        DUE.walk("wwwwwwwwwwwwwww", 3, 0, 0, 0);
        DUE.is("43: 15 STEPS", x.likely(3), 0);
        DUE.walk("wwwwwwwwwwwwwwww", 3, 0, 0, 0);
        DUE.is("43: 16 STEPS", x.likely(3), -2);
        DUE.row("43: 16 STEPS, the ROW stays", 1, 1);
        DUE.is("43: none such", x.likely(4), -1);
        DUE.is("43: none such below", x.likely(-1), -1);
        x.drop(3);
        DUE.is("43: none told", x.likely(3), -1);
        x.err(1);
        DUE.walk("rrrlllrrrlllrrr", 3, 0, 0, 9);
        x.likely(3);
        DUE.row("43: 15 that are SAFE", 1, 1);
        DUE.fog("999");
        DUE.town(".....");
        DUE.walk("rrrr", 0, 0, 0, 9);
        x.likely(0);
        DUE.row("43: 9 to the 4th", 6561, 10000);
        x.rope(0, 2);
        x.likely(0);
        DUE.row("43: half of it on a ROPE", 81, 100);
        DUE.fog("");
        x.lamp(1, 1);
        DUE.walk("rrrr", 0, 0, 0, 0);
        x.unrope();
        x.likely(0);
        // Into 1 and 2 it is LIT; by where one is then.
        DUE.row("43: LIT", 81, 100);
    }

    private static void mean() {
        FinedBySight x = DUE.fresh("...");
        x.err(5);
        DUE.rule("c+1");
        DUE.is("44: no HOURS", x.mean(0, 2, 0, 0, 0), 0);
        DUE.row("44: no HOURS", 0, 1);
        x.mean(2, 2, 0, 0, 6);
        DUE.row("44: there", 0, 1);
        x.mean(0, 1, 0, 0, 1);
        DUE.row("44: one try", 1 + 2, 2);
        x.mean(0, 1, 0, 0, 2);
        // Half of them owe 2 and are there; half owe 1, then 1 or 2.
        DUE.row("44: two tries", 4 + 2 + 1 + 2, 4);
        x.mean(0, 2, 0, 1, 2);
        DUE.row("44: SAFE", 2 + 3, 1);
        x.mean(0, 2, 0, 1, 6);
        // Time enough: as good ones may wait; waiting owes, so that there is none.
        DUE.row("44: time enough", 2 + 3, 1);
        x.mean(0, 2, 0, -1, 6);
        DUE.row("44: BLIND", 0, 1);
        DUE.is("44: n 7", x.mean(0, 2, 0, 1, 7), -1);
        DUE.is("44: n -1", x.mean(0, 2, 0, 1, -1), -1);
        DUE.row("44: refused", 0, 1);
        DUE.rule("h");
        x.mean(0, 2, 10, 1, 2);
        DUE.row("44: HOURS behind this one", 11 + 12, 1);
    }

    private static void meanTies() {
        FinedBySight x = DUE.fresh(".../...");
        x.err(5);
        DUE.rule("(c<3)*9+1");
        x.mean(0, 2, 0, 1, 4);
        DUE.row("44: around", 1 + 1 + 1 + 10, 1);
        x.mean(0, 2, 0, 1, 3);
        DUE.row("44: no time to go around", 10 + 10, 1);
        DUE.town(".../.../...");
        DUE.rule("(h<2)*(1-(c=4))*9");
        x.mean(4, 8, 0, 1, 3);
        DUE.row("44: staying first", 0, 1);
        x.mean(4, 8, 0, 1, 2);
        DUE.row("44: no time for staying", 9, 1);
        DUE.town(".#.");
        DUE.rule("(h=3)*9+1");
        x.mean(0, 2, 0, 1, 3);
        DUE.row("44: no chance", 1 + 1 + 10, 1);
        DUE.town(".../..#");
        DUE.rule("(c=0)*7+1");
        x.mean(0, 4, 0, 0, 1);
        // Each STEP is as good: staying owes 8, one into 1 or 3 that ERRS 1 or 8.
        DUE.row("44: no chance, the least", 1 + 8, 2);
    }
}
