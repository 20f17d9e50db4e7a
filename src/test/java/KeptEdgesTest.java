/** Promises 48 to 51: each sentence that names a boundary. */
public final class KeptEdgesTest {
    private static final Due DUE = new Due();
    private static final String THIRTY = "rlrlrlrlrlrlrlrlrlrlrlrlrlrlrr";
    private static final String STAYING = "wwwwwwwwwwwwwwwwwwwwwwwwwwwwww";
    private static final int MAX = Integer.MAX_VALUE;
    private static final int MIN = Integer.MIN_VALUE;

    public static void main(String[] args) {
        keepNumbers();
        keepTheEmpty();
        keepTheFull();
        keepTheWalk();
        keepOverAgain();
        againNothingElse();
        againToldAnew();
        countEach();
        countRefused();
        countRow();
        rowNumbers();
        rowToldLast();
        rowSetByRefused();
        DUE.close("KeptEdgesTest");
    }

    /** Under a number 0 .. 1. */
    private static void keepNumbers() {
        int[] wrong = {-1, 2, MAX, MIN};
        FinedBySight x = DUE.fresh("..");
        for (int i : wrong) {
            DUE.is("48: " + i, x.keep(i), false);
            DUE.is("49: " + i, x.again(i), false);
        }
        DUE.is("49: 0, nothing kept", x.again(0), false);
        DUE.is("49: 1, nothing kept", x.again(1), false);
        DUE.is("48: 0", x.keep(0), true);
        DUE.is("49: 0", x.again(0), true);
        DUE.is("49: 1, still nothing kept", x.again(1), false);
        DUE.is("48: 1", x.keep(1), true);
        DUE.is("49: 1", x.again(1), true);
    }

    /** Nothing at all may be kept, too. */
    private static void keepTheEmpty() {
        FinedBySight x = DUE.fresh("....");
        x.keep(0);
        x.rope(0, 3);
        DUE.fog("123");
        x.err(9);
        DUE.walk("r", 0, 0, 0, 0);
        DUE.is("49: as it was at first", x.again(0), true);
        DUE.is("49: no ROPES", x.count(4), 0);
        DUE.is("49: no WALKS", x.count(5), 0);
        DUE.is("49: no FOG", x.count(6), 0);
        DUE.is("49: FOG 0", x.thick(1), 0);
        DUE.is("49: ERR 0", x.err(0), 0);
    }

    private static void keepTheFull() {
        FinedBySight x = new FinedBySight();
        Scenes.town(x, "......");
        for (int k = 0; k < 5; k++) {
            x.rope(k, k + 1);
        }
        x.rope(0, 5);
        Scenes.fog(x, Scenes.DIGITS);
        x.err(9);
        for (int i = 0; i < 4; i++) {
            Scenes.walk(x, THIRTY, i, i, 10 * i, 9 - i);
        }
        x.keep(1);
        for (int k = 0; k < 6; k++) {
            x.unrope();
        }
        for (int k = 0; k < 6; k++) {
            x.rope(3, 4);
        }
        Scenes.fog(x, "9");
        x.err(0);
        for (int i = 0; i < 4; i++) {
            Scenes.walk(x, STAYING, i, 5, 0, 0);
        }
        DUE.is("49: the full", x.again(1), true);
        DUE.is("49: 6 ROPES", x.count(4), 6);
        DUE.is("49: 4 WALKS", x.count(5), 15);
        DUE.is("49: 24 digits", x.count(6), 24);
        for (int h = 0; h < 24; h++) {
            DUE.is("49: FOG " + h, x.thick(h), h % 10);
        }
        for (int i = 0; i < 4; i++) {
            DUE.is("49: WALK " + i + " begins", x.at(i, 10 * i), i);
            DUE.is("49: not ahead of it", i == 0 ? -2 : x.at(i, 10 * i - 1), -2);
            DUE.is("49: WALK " + i + " ends", x.at(i, 10 * i + 30), i + 2);
            DUE.is("49: not behind it", x.at(i, 10 * i + 31), -2);
        }
        DUE.is("49: ERR", x.err(0), 9);
        Scenes.fog(x, "9");
        DUE.is("49: the last ROPE", x.reach(0, 0, 0, 24), 6);
        x.unrope();
        for (int k = 5; k > 0; k--) {
            DUE.is("49: ROPE " + k, x.reach(0, 0, 0, 24), k + 1);
            x.unrope();
        }
        DUE.is("49: none is left", x.reach(0, 0, 0, 24), 1);
    }

    /** A WALK is kept with its YARD, HOUR, STRENGTH and each of its STEPS. */
    private static void keepTheWalk() {
        FinedBySight x = DUE.fresh("......");
        x.err(5);
        DUE.rule("s");
        DUE.walk("rrrrrrrrrrrrrrr", 1, 0, 3, 7);
        x.keep(0);
        DUE.walk("wwwwwwwwwwwwwww", 1, 5, 9, 2);
        x.again(0);
        DUE.is("49: its STRENGTH", x.bill(1), 16 * 7);
        DUE.fog("9");
        DUE.is("49: its STEPS", x.likely(1), 0);
        // 5 of 15 at least: all but 1 + 15 + 105 + 455 + 1365 of 32768.
        DUE.row("49: its STEPS", 32768 - 1941, 32768);
        DUE.is("49: its HOUR and YARD", x.at(1, 3), 0);
        DUE.is("49: its last YARD", x.at(1, 18), 5);
    }

    /** What is kept is not changed by what comes later, nor by being used. */
    private static void keepOverAgain() {
        FinedBySight x = DUE.fresh("...");
        x.err(1);
        DUE.walk("rr", 0, 0, 0, 0);
        x.rope(0, 1);
        x.keep(0);
        for (int k = 0; k < 3; k++) {
            DUE.is("49: time " + k, x.again(0), true);
            DUE.is("49: ERR", x.err(7), 1);
            DUE.is("49: WALKS", x.count(5), 1);
            DUE.is("49: where it is", x.at(0, 1), 1);
            DUE.is("49: ROPES", x.unrope(), 0);
            DUE.walk("ww", 0, 2, 0, 0);
            x.rope(0, 2);
            x.rope(1, 2);
        }
        x.drop(0);
        DUE.is("48: kept anew", x.keep(0), true);
        x.again(0);
        DUE.is("49: ERR kept anew", x.err(0), 7);
        DUE.is("49: WALKS kept anew", x.count(5), 0);
        DUE.is("49: ROPES kept anew", x.count(4), 2);
    }

    /** ROPES, WALKS, ERR, FOG: nothing else. */
    private static void againNothingElse() {
        FinedBySight x = DUE.fresh("1..");
        DUE.rule("5");
        x.sees(0, 0, 1);
        DUE.tell("12");
        x.keep(0);
        DUE.rule("6");
        x.lamp(0, 2);
        x.lamp(2, 3);
        DUE.tell("345");
        x.takings(0);
        DUE.is("49: again", x.again(0), true);
        DUE.is("49: THE RULE", x.owed(0, 0, 0), 6);
        DUE.is("49: a LAMP", x.yard(0), 2);
        DUE.is("49: another LAMP", x.yard(2), 3);
        DUE.is("49: THE TEXT", x.count(8), 3);
        DUE.is("49: THE TEXT is that", x.fog(), 3);
        DUE.is("49: its first sign", x.thick(0), 3);
        DUE.row("49: the ROW", 0);
    }

    /** Refused: THE TOWN was told anew since. */
    private static void againToldAnew() {
        FinedBySight x = DUE.fresh("..");
        x.err(3);
        x.keep(0);
        x.keep(1);
        DUE.is("49: a text that tells none", DUE.town("./.."), -4);
        DUE.is("49: not told anew", x.again(0), true);
        DUE.fog("1");
        DUE.rule("1");
        x.lamp(0, 1);
        DUE.is("49: not told anew by other calls", x.again(1), true);
        x.err(4);
        DUE.is("49: the same again", DUE.town(".."), 2);
        DUE.is("49: 0", x.again(0), false);
        DUE.is("49: 1", x.again(1), false);
        DUE.is("49: ERR stays", x.err(5), 4);
        DUE.is("48: 0 anew", x.keep(0), true);
        DUE.is("49: 0 anew", x.again(0), true);
        DUE.is("49: 1 is not", x.again(1), false);
        DUE.is("49: ERR as kept since", x.err(0), 5);
    }

    private static void countEach() {
        FinedBySight x = new FinedBySight();
        Scenes.full(x);
        int[] full = {18, 6, 13, 1, 6, 15, 24, 11, 80};
        for (int what = 0; what < 9; what++) {
            DUE.is("50: full, " + what, x.count(what), full[what]);
        }
        x = DUE.fresh("#");
        int[] wall = {1, 1, 0, 0, 0, 0, 0, 0, 0};
        for (int what = 0; what < 9; what++) {
            DUE.is("50: a WALL, " + what, x.count(what), wall[what]);
        }
        x = DUE.fresh("123456/789123/456789/123456/789123/456789");
        DUE.is("50: all LAMPS", x.count(3), 36);
        DUE.is("50: all no WALLS", x.count(2), 36);
        x = DUE.fresh("./#/.");
        DUE.is("50: WIDE 1", x.count(1), 1);
        DUE.is("50: 3 YARDS", x.count(0), 3);
        DUE.is("50: 2 no WALLS", x.count(2), 2);
        for (int i = 3; i >= 0; i--) {
            DUE.walk("", i, 0, 0, 0);
            DUE.is("50: WALKS down to " + i, x.count(5), 16 - (1 << i));
        }
    }

    private static void countRefused() {
        FinedBySight x = DUE.fresh();
        int[] wrong = {-1, 9, MAX, MIN};
        for (int what : wrong) {
            DUE.is("50: " + what, x.count(what), -1);
        }
    }

    /** How many numbers each call tells. */
    private static void countRow() {
        FinedBySight x = DUE.fresh("......");
        DUE.walk("r", 0, 0, 0, 1);
        DUE.walk("l", 1, 2, 0, 1);
        Twins.Call[] calls = {y -> y.lit(0), y -> y.sees(0, 0, 0), y -> y.seen(0, 0, 0), y -> y.dearest(0, 0),
            y -> y.light(0, 1), y -> y.bill(0), y -> y.saw(0), y -> y.dims(0), y -> y.hit(0, 1), y -> y.hits(),
            y -> y.takings(0), y -> y.way(0, 5), y -> y.cheapest(0, 5, 0, 0, 24), y -> y.safe(0, 5, 0, 1),
            y -> y.buys(0, 5, 0, 24, 99), y -> y.reach(0, 0, 1, 24), y -> y.tour(0, 0, 1, 2, 65), y -> y.bears(0, 5, 1),
            y -> y.waits(0, 5, 0, 1), y -> y.chance(0, 5, 0, 1, 8), y -> y.likely(0), y -> y.mean(0, 5, 0, 1, 6),
            y -> y.best(0, 0, 0, 24), y -> y.meet(0, 5, 0, 1, 1), y -> y.lead(0, 5, 0, 1, 1)};
        int[] due = {2, 2, 2, 1, 1, 2, 2, 1, 2, 1, 1, 5, 6, 5, 1, 2, 1, 1, 1, 3, 2, 2, 2, 1, 1};
        for (int k = 0; k < calls.length; k++) {
            calls[k].ask(x);
            DUE.is("50: numbers of the ROW of call " + k, x.count(7), due[k]);
            DUE.is("51: the last one", DUE.throwsAt(due[k] - 1), false);
            DUE.is("51: none behind it", DUE.throwsAt(due[k]), true);
        }
    }

    /** NoSuchElementException: none such. */
    private static void rowNumbers() {
        FinedBySight x = DUE.fresh("....../####.#/......");
        int[] wrong = {-1, 0, 1, 11, 12, MAX, MIN};
        for (int i : wrong) {
            DUE.is("51: no ROW, " + i, DUE.throwsAt(i), true);
        }
        DUE.is("51: the longest", x.cheapest(0, 12, 0, -1, 24), 0);
        DUE.row("51: 11 numbers", 10, 1, 1, 1, 1, 2, 2, 3, 3, 3, 3);
        int[] behind = {-1, 11, 12, MAX, MIN};
        for (int i : behind) {
            DUE.is("51: of 11, " + i, DUE.throwsAt(i), true);
        }
        x.hits();
        for (int i = 1; i < 11; i++) {
            DUE.is("51: a longer one is gone, " + i, DUE.throwsAt(i), true);
        }
        DUE.is("51: one is there", x.row(0), 0);
        x.way(0, 0);
        DUE.is("51: an empty one", DUE.throwsAt(0), true);
        DUE.is("50: an empty one", x.count(7), 0);
    }

    /** Told last by a call that says so: others leave it. */
    private static void rowToldLast() {
        FinedBySight x = DUE.fresh("....");
        DUE.walk("r", 0, 0, 0, 1);
        DUE.walk("l", 1, 1, 0, 1);
        x.bill(0);
        Twins.Call[] calls = {y -> y.sign(0), y -> y.end(0) ? 1 : 0, y -> y.fog(), y -> y.rule(), y -> y.yard(0),
            y -> y.lamp(3, 1), y -> y.err(1), y -> y.thick(0), y -> y.sheet(2, 1, 0, 0), y -> y.rope(0, 1),
            y -> y.unrope(), y -> y.owed(0, 0, 1), y -> y.needs(0, 1, 0), y -> walked(y), y -> y.at(2, 0),
            y -> y.adopt(3, 0, 1, 0, 1), y -> y.hidden(0, 0, 24), y -> y.brush(0, 1), y -> y.fee(1),
            y -> y.drop(3) ? 1 : 0, y -> y.keep(0) ? 1 : 0, y -> y.again(0) ? 1 : 0, y -> y.count(0)};
        for (int k = 0; k < calls.length; k++) {
            DUE.is("51: call " + k + " is not refused", calls[k].ask(x) >= 0, true);
            DUE.row("51: the ROW behind call " + k, 2, 0);
        }
        DUE.town("..");
        DUE.row("51: the ROW behind a town", 2, 0);
    }

    private static long walked(FinedBySight x) {
        return Scenes.walk(x, "rr", 2, 0, 0, 1);
    }

    private static void rowSetByRefused() {
        FinedBySight x = DUE.fresh("..");
        x.lit(1000);
        x.way(0, 2);
        x.chance(0, 1, 0, 1, 9);
        DUE.row("51: a refused call tells none");
        x.hits();
        x.lit(-1);
        x.way(-1, 0);
        x.chance(0, 1, 0, 1, -1);
        DUE.row("51: nor takes one away", 0);
    }
}
