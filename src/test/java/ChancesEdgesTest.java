/** Promises 42 to 47: each sentence that names a boundary. */
public final class ChancesEdgesTest {
    private static final Due DUE = new Due();
    private static final String NINES = "99999999999999999999999";
    private static final String LAST_CLEAR = NINES + "0";
    private static final String FIRST_CLEAR = "0" + NINES;
    private static final String FIRST_OF_23 = "0" + NINES.substring(1);
    private static final String FIFTEEN = "rrrrrrrrrrrrrrr";

    public static void main(String[] args) {
        chanceHours();
        chanceThere();
        chanceFirstStep();
        chanceStayingLast();
        chanceNone();
        likelySteps();
        likelyGoesOn();
        likelyRefused();
        meanHours();
        meanThere();
        meanLeast();
        meanEachStep();
        bestNone();
        bestFirst();
        bestEdges();
        meetWithin();
        meetFirst();
        leadWage();
        leadNone();
        leadEdges();
        DUE.close("ChancesEdgesTest");
    }

    /** Within n (0 .. 8) HOURS. */
    private static void chanceHours() {
        FinedBySight x = DUE.fresh("..");
        x.err(9);
        long lower = 1;
        long not = 1;
        for (int n = 0; n <= 8; n++) {
            DUE.is("42: within " + n, x.chance(0, 1, 999, 0, n), 0);
            DUE.row("42: within " + n, lower - not, lower, n == 0 ? 4 : 1);
            lower *= 10;
            not *= 9;
        }
        DUE.is("42: within 9", x.chance(0, 1, 999, 0, 9), -1);
        DUE.is("42: within -1", x.chance(0, 1, 999, 0, -1), -1);
        DUE.row("42: the ROW stays", 100000000 - 43046721, 100000000, 1);
        DUE.fog("99999990");
        x.chance(0, 1, 0, 1, 8);
        DUE.row("42: the eighth HOUR is clear", 1, 1, 0);
        x.chance(0, 1, 0, 1, 7);
        DUE.row("42: seven are not", 10000000 - 4782969, 10000000, 1);
        x.chance(0, 1, 1, 1, 7);
        DUE.row("42: the seventh from HOUR 1 on", 1, 1, 0);
        x.chance(0, 1, 7, 1, 1);
        DUE.row("42: now", 1, 1, 1);
        x.chance(0, 1, 7, 1, 2);
        DUE.row("42: now, not later", 1, 1, 1);
    }

    /** One that is there stays; 4 if one is there, or n is 0. */
    private static void chanceThere() {
        FinedBySight x = DUE.fresh("...");
        x.err(9);
        for (int n = 0; n <= 8; n++) {
            x.chance(1, 1, 0, 0, n);
            DUE.row("42: there, " + n, 1, 1, 4);
        }
        x.chance(0, 2, 0, 9, 0);
        DUE.row("42: not there, 0", 0, 1, 4);
        x.chance(0, 1, 0, 9, 8);
        DUE.row("42: one that has come stays", 1, 1, 0);
        x.chance(0, 1, 0, 9, 1);
        DUE.row("42: in one HOUR", 1, 1, 1);
    }

    /** Of as good ones the least. */
    private static void chanceFirstStep() {
        FinedBySight x = DUE.fresh(".../.../...");
        x.err(5);
        int[][] ways = {{4, 1, 0}, {4, 5, 1}, {4, 7, 2}, {4, 3, 3}, {4, 2, 0}, {4, 0, 0}, {4, 8, 1}, {4, 6, 2}};
        for (int[] w : ways) {
            int far = w[1] % 2 == 0 ? 2 : 1;
            x.chance(w[0], w[1], 0, 9, far);
            DUE.row("42: to " + w[1], 1, 1, w[2]);
            x.chance(w[0], w[1], 0, 0, far);
            DUE.row("42: to " + w[1] + " with STEPS that ERR", 1, far == 1 ? 2 : 4, w[2]);
        }
    }

    /** 4 last: to try in FOG is as good as to wait for a clear HOUR, and comes ahead of it. */
    private static void chanceStayingLast() {
        FinedBySight x = DUE.fresh(".../.../...");
        x.err(5);
        DUE.fog("90");
        int[] next = {1, 5, 7, 3};
        for (int d = 0; d < 4; d++) {
            x.chance(4, next[d], 0, 1, 2);
            DUE.row("42: to try is no worse, " + d, 1, 1, d);
        }
        DUE.fog("9");
        DUE.town("#.#/.../#.#");
        for (int d = 0; d < 4; d++) {
            x.chance(4, next[d], 0, 0, 1);
            DUE.row("42: one try, " + d, 1, 2, d);
        }
        x.rope(3, 5);
        x.chance(4, 5, 0, 0, 1);
        DUE.row("42: on a ROPE", 1, 1, 1);
        x.chance(1, 5, 0, 0, 2);
        DUE.row("42: onto a ROPE", 1, 2, 2);
        DUE.town(".");
        x.chance(0, 0, 0, 0, 8);
        DUE.row("42: one YARD", 1, 1, 4);
    }

    /** No chance: each STEP is as good, the least is 0. */
    private static void chanceNone() {
        FinedBySight x = DUE.fresh(".#.");
        for (int n = 1; n <= 8; n++) {
            DUE.is("42: no way, " + n, x.chance(0, 2, 0, 9, n), 0);
            DUE.row("42: no way, " + n, 0, 1, 0);
        }
        x.chance(0, 2, 0, 9, 0);
        DUE.row("42: no way, 0", 0, 1, 4);
        DUE.town("......");
        x.chance(0, 5, 0, 9, 4);
        DUE.row("42: too far", 0, 1, 0);
        x.chance(0, 5, 0, 9, 5);
        DUE.row("42: just far enough", 1, 1, 1);
    }

    /** -2: more than 15 STEPS. */
    private static void likelySteps() {
        FinedBySight x = DUE.fresh("..");
        x.err(9);
        long lower = 1;
        long not = 1;
        for (int n = 0; n <= 15; n++) {
            DUE.walk(FIFTEEN.substring(0, n), 0, 0, 0, 0);
            DUE.is("43: " + n + " STEPS", x.likely(0), 0);
            DUE.row("43: " + n + " STEPS", n == 0 ? 1 : lower - not, lower);
            lower *= 10;
            not *= 9;
        }
        DUE.row("43: 15 STEPS", 794108867905351L, 1000000000000000L);
        for (int n = 16; n <= 30; n++) {
            DUE.walk((FIFTEEN + FIFTEEN).substring(0, n), 0, 0, 0, 0);
            DUE.is("43: " + n + " STEPS", x.likely(0), -2);
        }
        DUE.walk("wwwwwwwwwwwwwwww", 0, 0, 0, -1);
        DUE.is("43: 16 of a BLIND one", x.likely(0), -2);
        DUE.row("43: the ROW stays", 794108867905351L, 1000000000000000L);
    }

    /** Behind one that erred the STEPS go on as told, from where one is; each is SAFE or ERRS by where one is then. */
    private static void likelyGoesOn() {
        FinedBySight x = DUE.fresh("......");
        x.err(5);
        DUE.walk(FIFTEEN, 0, 0, 999, 0);
        x.likely(0);
        // 5 of 15 at least: all but 1 + 15 + 105 + 455 + 1365 of 32768.
        DUE.row("43: against the edge one stays", 32768 - 1941, 32768);
        DUE.walk("rr", 1, 0, 0, 0);
        x.rope(0, 1);
        x.likely(1);
        DUE.row("43: the first on a ROPE", 1, 2);
        x.rope(1, 2);
        x.likely(1);
        DUE.row("43: both on ROPES", 1, 1);
        x.unrope();
        x.unrope();
        x.rope(1, 2);
        x.likely(1);
        DUE.row("43: the second on a ROPE, if one is there", 1, 2);
        DUE.fog("90");
        DUE.walk("rrl", 2, 0, 0, 1);
        x.likely(2);
        // The first STEP may ERR; from 2 the last one is on the ROPE, from 1 it ERRS half the time, and ends well so.
        DUE.row("43: FOG by HOURS", 3, 4);
        FinedBySight other = DUE.fresh("..");
        other.err(5);
        DUE.walk("r", 0, 0, 0, 0);
        DUE.walk("l", 1, 1, 0, 0);
        DUE.walk("", 2, 0, 0, 0);
        for (int k = 0; k < 2; k++) {
            for (int i = 0; i < 3; i++) {
                other.likely(i);
                DUE.row("43: whatever was asked ahead, WALK " + i, 1, i < 2 ? 2 : 1);
            }
        }
    }

    private static void likelyRefused() {
        FinedBySight x = DUE.fresh("..");
        for (int i = -1; i <= 4; i++) {
            DUE.is("43: none told, " + i, x.likely(i), -1);
        }
        DUE.row("43: no ROW");
        DUE.walk("", 3, 1, 999, 0);
        DUE.is("43: no STEPS", x.likely(3), 0);
        DUE.row("43: no STEPS", 1, 1);
    }

    /** In the next n (0 .. 6) HOURS behind this one. */
    private static void meanHours() {
        FinedBySight x = DUE.fresh("..");
        x.err(9);
        DUE.rule("1");
        long[][] due = {{0, 1}, {1, 1}, {19, 10}, {271, 100}, {3439, 1000}, {40951, 10000}, {468559, 100000}};
        for (int n = 0; n <= 6; n++) {
            DUE.is("44: in " + n, x.mean(0, 1, 999, 0, n), 0);
            DUE.row("44: in " + n, due[n]);
        }
        DUE.is("44: in 7", x.mean(0, 1, 999, 0, 7), -1);
        DUE.is("44: in -1", x.mean(0, 1, 999, 0, -1), -1);
        DUE.row("44: the ROW stays", due[6]);
        FinedBySight other = DUE.fresh("..");
        other.err(9);
        DUE.rule("1");
        other.safe(0, 0, 0, -1);
        other.mean(0, 1, 0, 0, 2);
        DUE.row("44: by its own STRENGTH, whatever was asked ahead", 19, 10);
        other.safe(0, 0, 0, 0);
        other.mean(0, 1, 0, 1, 2);
        DUE.row("44: by its own STRENGTH, SAFE", 1, 1);
        other.safe(0, 0, 0, 0);
        other.chance(0, 1, 0, 1, 2);
        DUE.row("42: by its own STRENGTH, SAFE", 1, 1, 0);
        x = DUE.fresh("..");
        DUE.rule("h-999");
        x.mean(0, 1, 999, 9, 1);
        DUE.row("44: this HOUR does not count", 1, 1);
        DUE.rule("999");
        x.err(0);
        x.mean(0, 1, 0, 0, 6);
        DUE.row("44: the HOUR of coming counts", 999, 1);
        DUE.town("#.#.#");
        x.mean(1, 3, 0, 0, 6);
        DUE.row("44: never there", 6 * 999, 1);
    }

    private static void meanThere() {
        FinedBySight x = DUE.fresh("..");
        DUE.rule("999");
        for (int n = 0; n <= 6; n++) {
            x.mean(1, 1, 0, 9, n);
            DUE.row("44: there, " + n, 0, 1);
            x.mean(0, 1, 0, -1, n);
            DUE.row("44: a BLIND one, " + n, 0, 1);
        }
    }

    /** Of those with the greatest chance() one with which the least is owed. */
    private static void meanLeast() {
        FinedBySight x = DUE.fresh("..");
        DUE.rule("(c=1)*(h<6)*60+1");
        x.mean(0, 1, 0, 1, 6);
        DUE.row("44: waiting till the sixth HOUR", 6, 1);
        x.mean(0, 1, 0, 1, 5);
        DUE.row("44: as dear in each of five", 61, 1);
        DUE.fog("0");
        x.err(5);
        x.mean(0, 1, 0, 0, 2);
        // Each HOUR has to be tried for the greatest chance: 61, or 1 and then 61 or 1.
        DUE.row("44: the chance comes first", (2 * 61 + 2 + 61 + 1) / 2, 2);
    }

    /** Each of the five STEPS may be the one. */
    private static void meanEachStep() {
        FinedBySight x = DUE.fresh(".../.../...");
        DUE.rule("c+1");
        int[] next = {1, 5, 7, 3};
        for (int y : next) {
            x.mean(4, y, 0, 1, 1);
            DUE.row("44: to " + y, y + 1, 1);
            x.mean(4, y, 0, 1, 6);
            DUE.row("44: to " + y + ", time enough", y + 1, 1);
        }
        DUE.rule("(h<3)*(1-(c=4))*9");
        x.mean(4, 8, 0, 1, 4);
        DUE.row("44: staying twice", 0, 1);
        x.mean(4, 8, 0, 1, 3);
        DUE.row("44: staying once", 9, 1);
    }

    /** -2: no ROPE can be laid (6 are there, too). */
    private static void bestNone() {
        FinedBySight x = DUE.fresh(".");
        x.lit(0);
        DUE.is("45: one YARD", x.best(0, 0, 0, 24), -2);
        DUE.town(".#/#.");
        DUE.is("45: no two in a row", x.best(0, 0, 9, 24), -2);
        DUE.town("..");
        for (int k = 0; k < 6; k++) {
            DUE.is("45: " + k + " are there", x.best(0, 0, 0, 24), 2);
            DUE.row("45: " + k + " are there", 0, 1);
            x.rope(0, 1);
        }
        DUE.is("45: 6 are there", x.best(0, 0, 0, 24), -2);
        DUE.row("45: the ROW stays", 0, 1);
        DUE.is("45: 6 are there, 25", x.best(0, 0, 0, 25), -1);
        DUE.is("45: 6 are there, a YARD that is none", x.best(2, 0, 0, 24), -1);
        DUE.is("45: still 6", x.count(4), 6);
    }

    /** Of as good ones the first (by its lesser YARD, then the other one). */
    private static void bestFirst() {
        FinedBySight x = DUE.fresh(".../.../...");
        DUE.is("45: one STEP", x.best(4, 0, 0, 1), 3);
        DUE.row("45: one STEP: a column comes ahead of a row", 1, 7);
        DUE.is("45: one STEP from a corner", x.best(0, 0, 0, 1), 2);
        DUE.row("45: one STEP from a corner: the lesser other one", 0, 1);
        DUE.is("45: two STEPS from a corner", x.best(0, 0, 0, 2), 3);
        DUE.row("45: two STEPS from a corner", 0, 2);
        DUE.is("45: from the last", x.best(8, 0, 0, 24), 3);
        DUE.row("45: from the last", 2, 8);
        DUE.is("45: no HOURS", x.best(8, 0, 0, 0), 1);
        DUE.row("45: no HOURS", 0, 1);
        DUE.is("45: all are come to", x.best(8, 0, 9, 24), 9);
        DUE.row("45: all are come to", 0, 1);
        DUE.town("#../.#.");
        DUE.is("45: the first that can be", x.best(3, 0, 9, 24), 1);
        DUE.row("45: the first that can be", 1, 2);
    }

    private static void bestEdges() {
        FinedBySight x = DUE.fresh("....../....../....../....../....../......");
        DUE.is("45: the last corner", x.best(35, 999, 0, 24), 6);
        DUE.row("45: the last corner", 5, 35);
        x.rope(5, 35);
        DUE.is("45: with a ROPE there", x.best(35, 999, 0, 24), 11);
        DUE.row("45: with a ROPE there", 0, 5);
        DUE.is("45: only one is there", x.count(4), 1);
        DUE.is("45: that one alone", x.reach(35, 0, 0, 24), 6);
        DUE.is("45: 5 HOURS", x.best(35, 0, 0, 5), 11);
        DUE.row("45: 5 HOURS", 30, 35);
        DUE.is("45: 4 HOURS", x.best(35, 0, 0, 4), 9);
        DUE.row("45: 4 HOURS", 30, 35);
    }

    /** -2: not within 24. */
    private static void meetWithin() {
        FinedBySight x = DUE.fresh("....");
        DUE.fog(LAST_CLEAR);
        DUE.is("46: 24", x.meet(0, 1, 0, 9, 0), 24);
        DUE.row("46: 24", 1);
        DUE.is("46: both could", x.meet(0, 2, 0, 9, 9), 24);
        DUE.row("46: both could", 1);
        DUE.is("46: 48", x.meet(0, 2, 0, 9, 0), -2);
        DUE.row("46: the ROW stays", 1);
        DUE.fog(FIRST_OF_23);
        DUE.is("46: twice in 24", x.meet(0, 3, 0, 9, 9), 24);
        DUE.row("46: twice in 24, the first", 1);
        DUE.fog(FIRST_CLEAR);
        DUE.is("46: twice in 25", x.meet(0, 3, 0, 9, 9), -2);
        DUE.is("46: there", x.meet(3, 3, 999, 0, 0), 0);
        DUE.row("46: there", 3);
        DUE.is("46: two BLIND ones", x.meet(0, 3, 0, -1, -1), 2);
        DUE.row("46: two BLIND ones", 1);
        DUE.town(".#.");
        DUE.is("46: no way", x.meet(0, 2, 0, -1, -1), -2);
        DUE.row("46: the ROW stays again", 1);
    }

    /** The first such YARD. */
    private static void meetFirst() {
        FinedBySight x = DUE.fresh(".../.../...");
        DUE.is("46: corners", x.meet(0, 8, 0, 9, 9), 2);
        DUE.row("46: corners", 2);
        DUE.is("46: corners, the other way", x.meet(8, 0, 0, 9, 9), 2);
        DUE.row("46: corners, the other way", 2);
        DUE.is("46: YARD 0", x.meet(0, 1, 0, 9, 9), 1);
        DUE.row("46: YARD 0", 0);
        DUE.is("46: YARD 0 at once", x.meet(0, 0, 0, 9, 9), 0);
        DUE.row("46: YARD 0 at once", 0);
        DUE.is("46: neighbours", x.meet(7, 8, 0, 9, 9), 1);
        DUE.row("46: neighbours", 7);
        DUE.is("46: one waits", x.meet(7, 8, 0, 9, 0), 1);
        DUE.row("46: one waits", 8);
        DUE.is("46: the last YARD", x.meet(8, 8, 0, 9, 0), 0);
        DUE.row("46: the last YARD", 8);
    }

    private static void leadWage() {
        FinedBySight x = DUE.fresh("......");
        DUE.rule("10");
        DUE.is("47: no wage", x.lead(0, 5, 0, 1, 0), 60);
        DUE.row("47: no wage", 60);
        DUE.is("47: the least wage", x.lead(0, 5, 0, 1, 1), 65);
        DUE.is("47: the greatest wage", x.lead(0, 5, 0, 1, 99), 60 + 495);
        DUE.row("47: alone no wage is owed", 60);
        DUE.is("47: 100", x.lead(0, 5, 0, 1, 100), -1);
        DUE.is("47: -1", x.lead(0, 5, 0, 1, -1), -1);
        DUE.row("47: the ROW stays", 60);
        DUE.is("47: like ones", x.lead(5, 5, 999, 1, 99), 10);
        DUE.row("47: like ones", 10);
        DUE.is("47: one STEP", x.lead(4, 5, 0, 1, 99), 20 + 99);
        DUE.is("47: a BLIND one pays wages alone", x.lead(0, 5, 0, -1, 99), 495);
        DUE.row("47: a BLIND one alone", 0);
    }

    private static void leadNone() {
        FinedBySight x = DUE.fresh(".#.");
        x.lit(0);
        DUE.is("47: no way", x.lead(0, 2, 0, 9, 9), -2);
        DUE.is("47: no way for a BLIND one", x.lead(0, 2, 0, -1, 0), -2);
        DUE.row("47: the ROW stays", 0, 0);
        DUE.is("47: no way, wage 100", x.lead(0, 2, 0, 9, 100), -1);
        DUE.town("...");
        DUE.rule("5");
        DUE.is("47: alone it can't go", x.lead(0, 2, 0, 0, 7), 15 + 14);
        DUE.row("47: alone it can't go", -2);
        DUE.fog(FIRST_CLEAR);
        DUE.is("47: alone not within 24", x.lead(0, 2, 0, 9, 7), 15 + 14);
        DUE.row("47: alone not within 24", -2);
        DUE.fog(FIRST_OF_23);
        DUE.is("47: alone in 24", x.lead(0, 2, 0, 9, 7), 15 + 14);
        DUE.row("47: alone in 24", 25 * 5);
    }

    /** The first and the last HOUR, too; from an HOUR on. */
    private static void leadEdges() {
        FinedBySight x = DUE.fresh("..../....");
        DUE.rule("h*10+c");
        DUE.is("47: each HOUR", x.lead(0, 2, 3, 1, 0), 30 + 41 + 52);
        DUE.row("47: each HOUR alone", 30 + 41 + 52);
        DUE.rule("h-990");
        DUE.is("47: over 999", x.lead(0, 2, 999, 1, 0), 9 + 10 + 11);
        DUE.rule("c");
        DUE.is("47: by the row that way() tells", x.lead(0, 7, 0, 0, 0), 0 + 1 + 2 + 3 + 7);
        DUE.row("47: none alone", -2);
    }
}
