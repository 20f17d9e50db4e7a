/** Promises 48 to 51: what is kept, counted and told. */
public final class KeptTest {
    private static final Due DUE = new Due();

    public static void main(String[] args) {
        keepAndAgain();
        keptApart();
        wholeWalks();
        townForgets();
        count();
        row();
        DUE.close("KeptTest");
    }

    private static void keepAndAgain() {
        FinedBySight x = DUE.fresh("....");
        DUE.is("48: -1", x.keep(-1), false);
        DUE.is("48: 2", x.keep(2), false);
        DUE.is("49: nothing kept", x.again(0), false);
        DUE.is("49: -1", x.again(-1), false);
        DUE.is("49: 2", x.again(2), false);
        x.rope(0, 2);
        x.err(4);
        DUE.fog("123");
        DUE.walk("rr", 1, 0, 7, 3);
        DUE.rule("5");
        x.lit(0);
        DUE.is("48: kept", x.keep(1), true);
        DUE.is("49: nothing under the other number", x.again(0), false);
        x.unrope();
        x.rope(0, 3);
        x.rope(1, 2);
        x.err(9);
        DUE.fog("88");
        DUE.walk("rrr", 1, 1, 7, 3);
        DUE.walk("", 3, 1, 7, 3);
        DUE.rule("6");
        x.lamp(0, 1);
        DUE.tell("ab");
        x.hits();
        DUE.is("49: as kept", x.again(1), true);
        DUE.is("49: ROPES", x.count(4), 1);
        DUE.is("49: that ROPE", x.safe(0, 2, 1, 0), 2);
        DUE.is("49: no other one", x.safe(0, 3, 1, 0), -2);
        DUE.is("49: WALKS", x.count(5), 2);
        DUE.is("49: that WALK", x.at(1, 9), 2);
        DUE.is("49: no STEP more", x.at(1, 10), -2);
        DUE.is("49: FOG", x.count(6), 3);
        DUE.is("49: that FOG", x.thick(1), 2);
        DUE.is("49: ERR", x.err(4), 4);
        DUE.is("49: THE RULE is not kept", x.owed(0, 0, 0), 6);
        DUE.is("49: LAMPS are not kept", x.yard(0), 1);
        DUE.is("49: THE TEXT is not kept", x.count(8), 2);
        x.drop(1);
        x.unrope();
        DUE.is("49: once more", x.again(1), true);
        DUE.is("49: WALKS once more", x.count(5), 2);
        DUE.is("49: ROPES once more", x.count(4), 1);
    }

    private static void keptApart() {
        FinedBySight x = DUE.fresh("....");
        x.err(1);
        x.keep(0);
        x.err(2);
        x.keep(1);
        x.err(3);
        x.lit(5);
        DUE.is("48: the ROW stays", x.count(7), 2);
        x.again(0);
        DUE.is("49: 0", x.err(1), 1);
        x.again(1);
        DUE.is("49: 1", x.err(2), 2);
        x.err(7);
        x.keep(0);
        x.again(1);
        DUE.is("49: 1 again", x.err(2), 2);
        x.again(0);
        DUE.is("48: kept anew", x.err(7), 7);
        DUE.row("49: the ROW stays", 0, 0);
    }

    private static void wholeWalks() {
        FinedBySight x = DUE.fresh("......");
        DUE.walk("rlrlrlrlrlrlrlrlrlrlrlrlrlrlrr", 0, 0, 3, 2);
        DUE.walk("rrl", 2, 1, 4, 1);
        x.err(5);
        x.keep(0);
        DUE.walk("wwwwwwwwwwwwwwwwwwwwwwwwwwwwww", 0, 5, 0, 9);
        DUE.walk("lwwww", 2, 5, 0, 0);
        x.again(0);
        DUE.is("49: STRENGTH", x.bill(2), 2 + 2 + 2 + 2);
        DUE.row("49: STEPS", 4, 0);
        DUE.is("49: all 30 STEPS", x.at(0, 33), 2);
        DUE.is("49: the HOUR ahead of it", x.at(0, 32), 1);
        x.bill(0);
        DUE.row("49: 31 HOURS", 31, 0);
        DUE.fog("1");
        x.likely(2);
        // With no light: r r l ends in 2 if all go, or but one of the first two and not the last.
        DUE.row("49: STEPS that ERR", 1 + 2, 8);
    }

    private static void townForgets() {
        FinedBySight x = DUE.fresh("....");
        x.keep(0);
        x.keep(1);
        DUE.is("49: a town that can't be", DUE.town("../."), -5);
        DUE.is("49: is not told anew", x.again(0), true);
        DUE.town("....");
        DUE.is("49: told anew", x.again(0), false);
        DUE.is("49: told anew too", x.again(1), false);
        x.keep(1);
        DUE.is("49: kept since", x.again(1), true);
        DUE.is("49: not kept since", x.again(0), false);
    }

    private static void count() {
        FinedBySight x = DUE.fresh("..#/1.9");
        x.rope(0, 1);
        x.rope(0, 3);
        DUE.walk("", 0, 0, 0, 0);
        DUE.walk("", 3, 0, 0, 0);
        DUE.fog("01234");
        x.safe(0, 5, 0, 9);
        DUE.tell("xyz");
        int[] due = {6, 3, 5, 2, 2, 9, 5, 3, 3};
        for (int what = 0; what < due.length; what++) {
            DUE.is("50: count(" + what + ")", x.count(what), due[what]);
        }
        DUE.is("50: 9", x.count(9), -1);
        DUE.is("50: -1", x.count(-1), -1);
        DUE.is("50: MIN", x.count(Integer.MIN_VALUE), -1);
    }

    private static void row() {
        FinedBySight x = DUE.fresh("..../....");
        DUE.is("51: none at first", DUE.throwsAt(0), true);
        x.way(0, 7);
        DUE.row("51: numbers", 1, 1, 1, 2);
        DUE.is("51: -1", DUE.throwsAt(-1), true);
        DUE.is("51: MIN", DUE.throwsAt(Integer.MIN_VALUE), true);
        DUE.is("51: MAX", DUE.throwsAt(Integer.MAX_VALUE), true);
        x.owed(0, 0, 1);
        x.needs(0, 1, 0);
        x.at(0, 0);
        x.thick(0);
        DUE.row("51: told last by a call that says so", 1, 1, 1, 2);
        x.takings(0);
        DUE.row("51: a shorter one", 0);
        x.way(0, 0);
        DUE.row("51: none");
    }
}
