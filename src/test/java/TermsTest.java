/** The Terms, sentence by sentence: each boundary that they name. */
public final class TermsTest {
    private static final Due DUE = new Due();
    private static final String GRID = "....../....../....../....../....../......";
    private static final String SPACE = "......";

    public static void main(String[] args) {
        wideAndHigh();
        lampStrengths();
        fogGoesRound();
        linesEnd();
        litAgainstFog();
        litAsFarAs();
        seesAgainstFog();
        seesLit();
        neverItself();
        blindSeesNothing();
        ruleAtFirst();
        ruleBinds();
        ruleSplits();
        ruleNumbers();
        ruleNesting();
        ruleThings();
        ruleAsInts();
        owedIsPut();
        stepsAgainstWalls();
        owedInEachHour();
        safeBySight();
        safeByRope();
        safeForTheBlind();
        erring();
        ropesAtMost();
        walksInTheirHours();
        setsAsTwoNumbers();
        fractions();
        DUE.close("TermsTest");
    }

    /** WIDE 1 .. 6, HIGH 1 .. 6; YARDS by rows from the top. */
    private static void wideAndHigh() {
        for (int wide = 1; wide <= 7; wide++) {
            for (int high = 1; high <= 7; high++) {
                FinedBySight x = DUE.fresh("99");
                String row = (SPACE + ".").substring(0, wide);
                StringBuilder text = new StringBuilder(row);
                for (int r = 1; r < high; r++) {
                    text.append('/').append(row);
                }
                int fault = wide > 6 ? 6 : 6 * wide + 6;
                int due = wide > 6 || high > 6 ? -1 - fault : wide * high;
                String what = "Terms 1: " + wide + " WIDE, " + high + " HIGH";
                DUE.is(what, DUE.town(text.toString()), due);
                DUE.is(what + ": WIDE", x.count(1), due < 0 ? 2 : wide);
            }
        }
        FinedBySight x = DUE.fresh("12/34/56");
        for (int y = 0; y < 6; y++) {
            DUE.is("Terms 1: by rows from the top, " + y, x.yard(y), y + 1);
        }
    }

    /** A LAMP of STRENGTH 1 .. 9. */
    private static void lampStrengths() {
        FinedBySight x = DUE.fresh("19");
        DUE.is("Terms 1: the weakest", x.yard(0), 1);
        DUE.is("Terms 1: the strongest", x.yard(1), 9);
        DUE.is("Terms 1: 0 is no LAMP", DUE.town("0"), -1);
        DUE.is("Terms 1: the sign behind 9", DUE.town(".:"), -2);
        DUE.is("Terms 1: the sign ahead of /", DUE.town("-"), -1);
        DUE.is("Terms 1: the sign ahead of #", DUE.town("."  + "\""), -2);
    }

    /** FOG at first none: 0 always; in HOUR h the digit at h % (how many). */
    private static void fogGoesRound() {
        FinedBySight x = DUE.fresh();
        int[] hours = {0, 1, 23, 24, 999};
        for (int h : hours) {
            DUE.is("Terms 1: no FOG in " + h, x.thick(h), 0);
        }
        for (int n = 1; n <= 24; n++) {
            String digits = "1" + "00000000000000000000000".substring(0, Math.max(0, n - 2)) + (n > 1 ? "9" : "");
            DUE.is("Terms 1: FOG of " + n, DUE.fog(digits), n);
            DUE.is("Terms 1: the first of " + n, x.thick(0), 1);
            DUE.is("Terms 1: the last of " + n, x.thick(n - 1), n > 1 ? 9 : 1);
            DUE.is("Terms 1: the first again", x.thick(n), 1);
            DUE.is("Terms 1: the last again", x.thick(2 * n - 1), n > 1 ? 9 : 1);
            DUE.is("Terms 1: in HOUR 999", x.thick(999), digits.charAt(999 % n) - '0');
        }
    }

    /** A LINE goes as far as the first WALL, or the edge. */
    private static void linesEnd() {
        FinedBySight x = DUE.fresh(GRID);
        DUE.is("Terms 1: to all edges", x.sees(14, 0, 9), 10);
        DUE.row("Terms 1: to all edges", Due.set(2, 8, 12, 13, 15, 16, 17), Due.set(2, 8, 14));
        DUE.is("Terms 1: not behind the right edge", x.sees(5, 0, 1), 2);
        DUE.row("Terms 1: not behind the right edge", Due.set(4, 11), 0);
        DUE.is("Terms 1: not behind the left edge", x.sees(6, 0, 1), 3);
        DUE.row("Terms 1: not behind the left edge", Due.set(0, 7, 12), 0);
        DUE.is("Terms 1: not below the last row", x.sees(35, 0, 1), 2);
        DUE.row("Terms 1: not below the last row", 0, Due.set(11, 16));
        DUE.town("....../....../..#.../....../..#.../......");
        DUE.is("Terms 1: the first WALL up and down", x.sees(20, 0, 9), 5);
        DUE.row("Terms 1: the first WALL up and down", 0, Due.set(0, 1, 3, 4, 5));
        DUE.town("..#.#.");
        DUE.is("Terms 1: the first WALL left and right", x.sees(3, 0, 9), 0);
        DUE.is("Terms 1: one side", x.sees(0, 0, 9), 1);
        DUE.row("Terms 1: one side", 2, 0);
    }

    /** LIT if it has a LAMP with more STRENGTH than FOG. */
    private static void litAgainstFog() {
        for (int lamp = 1; lamp <= 9; lamp++) {
            FinedBySight x = DUE.fresh("#" + lamp + "#");
            for (int f = 0; f <= 9; f++) {
                x.sheet(2, 1, f, 0);
                String what = "Terms 1: a LAMP of " + lamp + " in FOG " + f;
                DUE.is(what, x.lit(0), lamp > f ? 1 : 0);
                DUE.row(what, lamp > f ? 2 : 0, 0);
            }
        }
    }

    /** LIT if on the LINE of such a LAMP of its STRENGTH less FOG. */
    private static void litAsFarAs() {
        for (int lamp = 1; lamp <= 9; lamp++) {
            FinedBySight x = DUE.fresh(lamp + ".....");
            for (int f = 0; f <= 9; f++) {
                x.sheet(2, 1, f, 0);
                int far = lamp > f ? Math.min(lamp - f, 5) : -1;
                String what = "Terms 1: as far as a LAMP of " + lamp + " in FOG " + f;
                DUE.is(what, x.lit(0), far + 1);
                DUE.row(what, (1 << far + 1) - 1, 0);
            }
        }
        FinedBySight x = DUE.fresh("9.#.../......");
        DUE.is("Terms 1: not behind a WALL", x.lit(0), 3);
        DUE.row("Terms 1: not behind a WALL", Due.set(0, 1, 6), 0);
    }

    /** SEES all on its LINE of s less FOG, none if that is below 1. */
    private static void seesAgainstFog() {
        for (int s = 0; s <= 9; s++) {
            FinedBySight x = DUE.fresh("......");
            for (int f = 0; f <= 9; f++) {
                x.sheet(2, 1, f, 0);
                int far = Math.max(0, Math.min(s - f, 5));
                String what = "Terms 1: STRENGTH " + s + " in FOG " + f;
                DUE.is(what, x.sees(0, 0, s), far);
                DUE.row(what, (1 << far + 1) - 2, 0);
            }
        }
    }

    /** And each LIT YARD that is on its LINE of 9. */
    private static void seesLit() {
        FinedBySight x = DUE.fresh(".....1/......");
        DUE.is("Terms 1: LIT ones far away", x.sees(0, 0, 0), 2);
        DUE.row("Terms 1: LIT ones far away", Due.set(4, 5), 0);
        DUE.is("Terms 1: LIT ones and one's own", x.sees(0, 0, 1), 4);
        DUE.row("Terms 1: LIT ones and one's own", Due.set(1, 6, 4, 5), 0);
        DUE.is("Terms 1: a LIT one is counted once", x.sees(3, 0, 1), 4);
        DUE.row("Terms 1: a LIT one is counted once", Due.set(2, 4, 5, 9), 0);
        DUE.is("Terms 1: not those off the LINE", x.sees(6, 0, 0), 1);
        DUE.row("Terms 1: not those off the LINE", Due.set(11), 0);
        DUE.town("..#..9");
        DUE.is("Terms 1: not behind a WALL", x.sees(0, 0, 0), 0);
        DUE.town("...../#####/....9");
        DUE.is("Terms 1: not LIT through a WALL", x.sees(0, 0, 0), 0);
    }

    private static void neverItself() {
        FinedBySight x = DUE.fresh("#9#");
        DUE.is("Terms 1: LIT itself", x.lit(0), 1);
        for (int s = -1; s <= 9; s++) {
            DUE.is("Terms 1: not itself with " + s, x.sees(1, 0, s), 0);
            DUE.is("Terms 1: not itself, the other way, with " + s, x.seen(1, 0, s), 0);
        }
    }

    private static void blindSeesNothing() {
        FinedBySight x = DUE.fresh("9.9/.../9.9");
        DUE.rule("9");
        DUE.is("Terms 1: a lamp of 0", x.sees(1, 0, 0), 3);
        DUE.is("Terms 1: a BLIND one", x.sees(1, 0, -1), 0);
        DUE.is("Terms 1: a lamp of 0 owes", x.owed(1, 0, 0), 9);
        DUE.is("Terms 1: a BLIND one owes 0", x.owed(1, 0, -1), 0);
    }

    private static void ruleAtFirst() {
        FinedBySight x = DUE.fresh("......");
        for (int s = -1; s <= 9; s++) {
            DUE.is("Terms 1: y at first, " + s, x.owed(0, 0, s), Math.max(0, Math.min(s, 5)));
        }
        String[] told = {"7", "s", "-y", "--y", "y+s", "s*s*s", "(y)", "y<s"};
        int[] due = {7, 9, 0, 5, 14, 729, 5, 1};
        for (int k = 0; k < told.length; k++) {
            DUE.rule(told[k]);
            DUE.is("Terms 1: told " + told[k], x.owed(0, 0, 9), due[k]);
            DUE.rule("");
            DUE.is("Terms 1: none again", x.owed(0, 0, 9), 5);
        }
    }

    private static void owes(String rule, int due) {
        FinedBySight x = DUE.fresh("..");
        DUE.is("Terms 1: " + rule + " can stand", DUE.rule(rule), 0);
        DUE.is("Terms 1: " + rule, x.owed(0, 0, 1), due);
    }

    /** < > = bind least, then + -, then * /, then - ahead of a thing. */
    private static void ruleBinds() {
        owes("1+1<2", 0);
        owes("1+1<3", 1);
        owes("3>1+1", 1);
        owes("3=1+2", 1);
        owes("2*3=6", 1);
        owes("1<2+5", 1);
        owes("(1<2)+5", 6);
        owes("2+3*4", 14);
        owes("2*3+4", 10);
        owes("20-6/2", 17);
        owes("-2*-3", 6);
        owes("9+-2", 7);
        owes("9--2", 11);
        owes("9---2", 7);
        owes("-2+9", 7);
        owes("--9", 9);
        owes("-(2-9)", 7);
        owes("-1<0", 1);
        owes("0>-1", 1);
        owes("-1=-1", 1);
        owes("5<5", 0);
        owes("5>5", 0);
        owes("5=5", 1);
        owes("4<5", 1);
        owes("5<4", 0);
        owes("4>5", 0);
        owes("5>4", 1);
        owes("4=5", 0);
        owes("(5<5)+5", 5);
        owes("(5>5)+5", 5);
        owes("(4=5)+5", 5);
        owes("(4<5)+5", 6);
        owes("(5>4)+5", 6);
        owes("(5=5)+5", 6);
        owes("(1<2)=(2>1)", 1);
        owes("(1<2)<(2>1)", 0);
        owes("1<(2<3)", 0);
        owes("0<(2<3)", 1);
        DUE.fresh();
        DUE.is("Terms 1: one behind the other", DUE.rule("1<2<3"), -4);
        DUE.is("Terms 1: another one behind it", DUE.rule("1=2>3"), -4);
        DUE.is("Terms 1: with a sum between", DUE.rule("1=2+5*2<3"), -8);
        DUE.is("Terms 1: in brackets", DUE.rule("(1<2=3)"), -5);
        DUE.is("Terms 1: behind brackets", DUE.rule("1<(2<3)<4"), -8);
        DUE.is("Terms 1: behind brackets with one", DUE.rule("(1<2)<3<4"), -8);
        DUE.is("Terms 1: two signs", DUE.rule("1<=2"), -3);
    }

    /** From the left; by 0: 0; cut to 0. */
    private static void ruleSplits() {
        owes("9-3-2", 4);
        owes("9-3+2", 8);
        owes("100/5/2", 10);
        owes("100/5*2", 40);
        owes("7*3/2", 10);
        owes("7/2*2", 6);
        owes("7/0", 0);
        owes("7/0+5", 5);
        owes("0/0+5", 5);
        owes("7/(3-3)*9+1", 1);
        owes("7/2", 3);
        owes("9+7/-2", 6);
        owes("9+-7/2", 6);
        owes("-7/-2", 3);
        owes("1/2", 0);
        owes("9+-1/2", 9);
    }

    /** A NUMBER of 1 to 3 digits. */
    private static void ruleNumbers() {
        owes("0", 0);
        owes("9", 9);
        owes("10", 10);
        owes("99", 99);
        owes("100", 100);
        owes("999", 999);
        owes("000", 0);
        owes("007", 7);
        DUE.fresh();
        DUE.is("Terms 1: a fourth digit", DUE.rule("1000"), -4);
        DUE.is("Terms 1: a fourth digit, noughts", DUE.rule("0000"), -4);
        DUE.is("Terms 1: a fourth digit behind a sign", DUE.rule("y+9999"), -6);
        DUE.is("Terms 1: three and a thing", DUE.rule("123y"), -4);
        DUE.is("Terms 1: a thing and a digit", DUE.rule("y1"), -2);
        DUE.is("Terms 1: a bracket and a digit", DUE.rule("(y)1"), -4);
        DUE.is("Terms 1: a NUMBER in brackets and a digit", DUE.rule("(1)2"), -4);
        DUE.is("Terms 1: a NUMBER in brackets and a thing", DUE.rule("(1)y"), -4);
    }

    /** At most 4 brackets in one another. */
    private static void ruleNesting() {
        owes("((((7))))", 7);
        owes("((((7))))+((((1))))", 8);
        owes("(((1+(2))))", 3);
        owes("(1)+(2)+(3)+(4)+(5)+(6)", 21);
        owes("-(-(-(-5)))", 5);
        DUE.fresh();
        DUE.is("Terms 1: a fifth", DUE.rule("(((((7)))))"), -5);
        DUE.is("Terms 1: a fifth behind a sign", DUE.rule("((((7+(1)))))"), -7);
        DUE.is("Terms 1: a fifth in the second", DUE.rule("((((7))))+(((((1"), -15);
        DUE.is("Terms 1: empty brackets", DUE.rule("()"), -2);
        DUE.is("Terms 1: one that closes nothing", DUE.rule("7)"), -2);
        DUE.is("Terms 1: one that closes too much", DUE.rule("((((7)))))"), -10);
        DUE.is("Terms 1: one that is open", DUE.rule("((((7)))"), -9);
        DUE.is("Terms 1: a minus ahead of none", DUE.rule("(-)"), -3);
    }

    /** y, s, f, h, l, c. */
    private static void ruleThings() {
        FinedBySight x = DUE.fresh("....../....../..3.../....../....../......");
        DUE.fog("012");
        String[] rules = {"y", "s", "f", "h", "l", "c"};
        // YARD 26, HOUR 998 (FOG 2): the LAMP at 14 lights 8 and 20; a lamp of 3 sees 1 far, and 14, 8.
        int[] dark = {6, 3, 2, 998, 0, 26};
        int[] light = {5, 3, 2, 998, 1, 20};
        for (int k = 0; k < rules.length; k++) {
            DUE.rule(rules[k]);
            DUE.is("Terms 1: " + rules[k] + " in the dark", x.owed(26, 998, 3), dark[k]);
            DUE.is("Terms 1: " + rules[k] + " where it is LIT", x.owed(20, 998, 3), light[k]);
        }
        DUE.rule("l+5");
        DUE.is("Terms 1: l is 0 in the dark", x.owed(26, 998, 3), 5);
        DUE.is("Terms 1: l is 1 where it is LIT", x.owed(20, 998, 3), 6);
        DUE.rule("h");
        DUE.is("Terms 1: HOUR 0", x.owed(0, 0, 3), 0);
        DUE.is("Terms 1: HOUR 999", x.owed(0, 999, 3), 999);
        DUE.rule("c");
        DUE.is("Terms 1: the last YARD", x.owed(35, 0, 3), 35);
        DUE.is("Terms 1: a great letter", DUE.rule("Y"), -1);
        DUE.is("Terms 1: another letter", DUE.rule("w"), -1);
    }

    /** As ints: what runs over goes round. */
    private static void ruleAsInts() {
        owes("-(999*999*999*3/999/999)/2", 653);
        owes("128*128*128*128*16=0", 1);
        owes("128*128*128*128*16+7", 7);
        // 2 to the 31st goes round to the least int, whose minus is itself.
        owes("128*128*128*128*8<0", 1);
        owes("128*128*128*128*8-1>0", 1);
        owes("-(128*128*128*128*8)<0", 1);
        owes("128*128*128*128*8/-1<0", 1);
    }

    /** Put to 0 .. 999, at the end alone. */
    private static void owedIsPut() {
        owes("998+1", 999);
        owes("999+1", 999);
        owes("999*999", 999);
        owes("1-1", 0);
        owes("1-2", 0);
        owes("0-999", 0);
        owes("999+999-999", 999);
        owes("999+9-500", 508);
        owes("5-9+8", 4);
    }

    private static void stepsAgainstWalls() {
        FinedBySight x = DUE.fresh(".../.#./...");
        String[] steps = {"u", "r", "d", "l", "w"};
        int[][] due = {{0, 1, 3, 0, 0}, {1, 2, 1, 0, 1}, {2, 2, 5, 1, 2}, {0, 3, 6, 3, 3}, {2, 5, 8, 5, 5},
            {3, 7, 6, 6, 6}, {7, 8, 7, 6, 7}, {5, 8, 8, 7, 8}};
        int[] from = {0, 1, 2, 3, 5, 6, 7, 8};
        for (int k = 0; k < from.length; k++) {
            for (int d = 0; d < 5; d++) {
                DUE.is("Terms 2: " + steps[d] + " from " + from[k], DUE.walk(steps[d], 0, from[k], 0, 0), due[k][d]);
                DUE.is("Terms 2: in its HOUR", x.at(0, 0), from[k]);
                DUE.is("Terms 2: in the HOUR behind it", x.at(0, 1), due[k][d]);
            }
        }
    }

    /** OWED in each HOUR, the first one and the last one too. */
    private static void owedInEachHour() {
        FinedBySight x = DUE.fresh("...");
        DUE.rule("c*10+1");
        DUE.walk("", 0, 2, 0, 0);
        DUE.is("Terms 2: one HOUR", x.bill(0), 21);
        DUE.walk("r", 0, 0, 0, 0);
        DUE.is("Terms 2: two HOURS", x.bill(0), 1 + 11);
        DUE.walk("rrl", 0, 0, 0, 0);
        DUE.is("Terms 2: four HOURS", x.bill(0), 1 + 11 + 21 + 11);
        DUE.walk("lw", 0, 0, 0, 0);
        DUE.is("Terms 2: staying", x.bill(0), 3);
    }

    /** SAFE, if one SEES that YARD in the HOUR in which it begins. */
    private static void safeBySight() {
        FinedBySight x = DUE.fresh("..");
        DUE.fog("15");
        DUE.walk("r", 0, 0, 0, 2);
        x.bill(0);
        DUE.row("Terms 2: seen when it begins", 2, 0);
        DUE.walk("r", 0, 0, 0, 1);
        x.bill(0);
        DUE.row("Terms 2: not seen", 2, 1);
        DUE.walk("r", 0, 0, 1, 2);
        x.bill(0);
        DUE.row("Terms 2: seen when it ends", 2, 1);
        DUE.walk("wlud", 0, 0, 1, 0);
        x.bill(0);
        DUE.row("Terms 2: staying is SAFE", 5, 0);
        x.lamp(0, 9);
        DUE.walk("r", 0, 0, 0, 0);
        x.bill(0);
        DUE.row("Terms 2: LIT", 2, 0);
        x.lamp(0, 1);
        x.bill(0);
        DUE.row("Terms 2: LIT no more", 2, 1);
    }

    /** SAFE, if both are on one ROPE: its ends, and all between. */
    private static void safeByRope() {
        FinedBySight x = DUE.fresh("....../....../......");
        x.rope(10, 7);
        for (int y = 6; y < 11; y++) {
            boolean on = y >= 7 && y < 10;
            DUE.is("Terms 2: right from " + y, x.safe(y, y + 1, 0, 0), on ? 1 : -2);
            DUE.is("Terms 2: left to " + y, x.safe(y + 1, y, 0, 0), on ? 1 : -2);
            DUE.is("Terms 2: up from " + y, x.safe(y, y - 6, 0, 0), -2);
            DUE.is("Terms 2: down from " + y, x.safe(y, y + 6, 0, 0), -2);
        }
        x.unrope();
        x.rope(2, 14);
        DUE.is("Terms 2: down a ROPE", x.safe(2, 14, 0, 0), 2);
        DUE.is("Terms 2: up a ROPE", x.safe(14, 2, 0, 0), 2);
        DUE.is("Terms 2: off it", x.safe(8, 9, 0, 0), -2);
        x.unrope();
        x.rope(0, 1);
        x.rope(1, 2);
        x.rope(6, 8);
        DUE.is("Terms 2: from one ROPE to the next", x.safe(0, 2, 0, 0), 2);
        DUE.is("Terms 2: on two ROPES is not on one", x.safe(0, 6, 0, 0), -2);
    }

    private static void safeForTheBlind() {
        FinedBySight x = DUE.fresh("...");
        DUE.fog("9");
        x.err(9);
        DUE.is("Terms 2: a lamp of 9 in FOG 9", x.safe(0, 2, 0, 9), -2);
        DUE.is("Terms 2: a BLIND one", x.safe(0, 2, 0, -1), 2);
        DUE.walk("rr", 0, 0, 0, -1);
        x.likely(0);
        DUE.row("Terms 2: a BLIND one never ERRS", 1, 1);
        x.chance(0, 2, 0, -1, 2);
        DUE.row("Terms 2: a BLIND one never ERRS by chance()", 1, 1, 1);
    }

    /** Else it ERRS with ERR tenths (0 .. 9; at first 0). */
    private static void erring() {
        FinedBySight x = DUE.fresh("..");
        x.chance(0, 1, 0, 0, 1);
        DUE.row("Terms 2: at first 0", 1, 1, 1);
        int[][] due = {{1, 1}, {9, 10}, {4, 5}, {7, 10}, {3, 5}, {1, 2}, {2, 5}, {3, 10}, {1, 5}, {1, 10}};
        for (int v = 0; v <= 9; v++) {
            x.err(v);
            x.chance(0, 1, 0, 0, 1);
            DUE.row("Terms 2: ERR " + v, due[v][0], due[v][1], 1);
        }
    }

    private static void ropesAtMost() {
        FinedBySight x = DUE.fresh("..");
        DUE.is("Terms 2: no ROPES at first", x.count(4), 0);
        for (int k = 1; k <= 6; k++) {
            DUE.is("Terms 2: ROPE " + k, x.rope(0, 1), k);
        }
        DUE.is("Terms 2: a seventh", x.rope(0, 1), -3);
        DUE.is("Terms 2: 6 are there", x.count(4), 6);
        DUE.is("Terms 2: one is taken away", x.unrope(), 5);
        DUE.is("Terms 2: one is laid again", x.rope(0, 1), 6);
    }

    /** One is there from that HOUR on till behind the last STEP. */
    private static void walksInTheirHours() {
        FinedBySight x = DUE.fresh("...");
        DUE.is("Terms 2: no WALKS at first", x.count(5), 0);
        for (int i = 0; i < 4; i++) {
            DUE.walk("rr", i, 0, 5, 0);
            DUE.is("Terms 2: WALKS told", x.count(5), (2 << i) - 1);
            int[] due = {-2, 0, 1, 2, -2};
            for (int h = 4; h <= 8; h++) {
                DUE.is("Terms 2: WALK " + i + " in " + h, x.at(i, h), due[h - 4]);
            }
        }
        DUE.is("Terms 2: a fifth", DUE.walk("rr", 4, 0, 5, 0), -100);
    }

    /** Bits of YARDS 0 .. 17, of 18 .. 35. */
    private static void setsAsTwoNumbers() {
        FinedBySight x = DUE.fresh(GRID);
        for (int y = 0; y < 36; y++) {
            DUE.is("Terms 2: one YARD", x.reach(y, 0, 0, 0), 1);
            DUE.row("Terms 2: YARD " + y, y < 18 ? 1 << y : 0, y < 18 ? 0 : 1 << y - 18);
        }
        DUE.is("Terms 2: all", x.reach(0, 0, 1, 24), 36);
        DUE.row("Terms 2: all", 0x3FFFF, 0x3FFFF);
    }

    /** In lowest terms; 0 by 1. */
    private static void fractions() {
        FinedBySight x = DUE.fresh("...");
        x.err(8);
        x.chance(0, 2, 0, 0, 1);
        DUE.row("Terms 2: 0 by 1", 0, 1, 0);
        x.chance(0, 2, 0, 0, 2);
        DUE.row("Terms 2: 4 by 100", 1, 25, 1);
        x.chance(0, 0, 0, 0, 8);
        DUE.row("Terms 2: 1 by 1", 1, 1, 4);
        DUE.walk("rr", 0, 0, 0, 0);
        x.likely(0);
        DUE.row("Terms 2: likely()", 1, 25);
        x.err(1);
        x.likely(0);
        DUE.row("Terms 2: lowest already", 81, 100);
        DUE.rule("0");
        x.mean(0, 2, 0, 0, 6);
        DUE.row("Terms 2: nothing by 1", 0, 1);
    }
}
