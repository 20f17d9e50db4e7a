/** Promises 45 to 47: ropes, two who meet. */
public final class RopesTest {
    private static final Due DUE = new Due();
    // YARDS 0 .. 4 / 5 (6 a WALL) 7 (8 a WALL) 9 / 10 .. 14
    private static final String TOWN = "...../.#.#./.....";

    public static void main(String[] args) {
        best();
        bestRefused();
        meet();
        lead();
        ropesNeverErr();
        DUE.close("RopesTest");
    }

    private static void best() {
        FinedBySight x = DUE.fresh(TOWN);
        DUE.is("45: the long row", x.best(0, 0, 0, 24), 5);
        DUE.row("45: the long row", 0, 4);
        DUE.is("45: three HOURS", x.best(0, 0, 0, 3), 4);
        DUE.row("45: of as good ones the first", 0, 3);
        DUE.is("45: no HOURS", x.best(0, 0, 0, 0), 1);
        DUE.row("45: no HOURS", 0, 1);
        x.rope(0, 4);
        DUE.is("45: with another one", x.best(0, 0, 0, 24), 7);
        DUE.row("45: with another one", 0, 10);
        DUE.is("45: none stays laid", x.count(4), 1);
        DUE.is("45: sees all", x.best(0, 0, 1, 24), 13);
        DUE.row("45: no ROPE is needed", 0, 1);
        DUE.is("45: one's own YARD", x.best(12, 0, 0, 24), 2 + 5);
        DUE.row("45: up to the ROPE", 2, 12);
        for (int k = 0; k < 5; k++) {
            x.rope(0, 1);
        }
        DUE.is("45: 6 are there", x.best(0, 0, 0, 24), -2);
        DUE.row("45: 6 are there, the ROW stays", 2, 12);
        DUE.town(".#/#.");
        DUE.is("45: none can be laid", x.best(0, 0, 0, 24), -2);
        DUE.row("45: none can be laid, the ROW stays", 2, 12);
    }

    private static void bestRefused() {
        FinedBySight x = DUE.fresh(TOWN);
        DUE.is("45: a WALL", x.best(6, 0, 0, 1), -1);
        DUE.is("45: no YARD", x.best(15, 0, 0, 1), -1);
        DUE.is("45: HOUR", x.best(0, 1000, 0, 1), -1);
        DUE.is("45: STRENGTH", x.best(0, 0, 10, 1), -1);
        DUE.is("45: n 25", x.best(0, 0, 0, 25), -1);
        DUE.is("45: n -1", x.best(0, 0, 0, -1), -1);
        DUE.is("45: no ROW yet", x.count(7), 0);
    }

    private static void meet() {
        FinedBySight x = DUE.fresh(TOWN);
        DUE.is("46: like ones", x.meet(3, 3, 0, 0, 0), 0);
        DUE.row("46: like ones", 3);
        DUE.is("46: halfway", x.meet(0, 14, 0, 1, 1), 3);
        DUE.row("46: the first such YARD", 3);
        DUE.is("46: one can't go", x.meet(0, 4, 0, 0, 1), 4);
        DUE.row("46: one can't go", 0);
        DUE.is("46: the other one can't", x.meet(0, 4, 0, 1, 0), 4);
        DUE.row("46: the other one can't", 4);
        DUE.is("46: none can", x.meet(0, 4, 0, 0, 0), -2);
        DUE.row("46: none can, the ROW stays", 4);
        DUE.is("46: BLIND", x.meet(0, 4, 0, -1, -1), 2);
        DUE.row("46: BLIND", 2);
        DUE.fog("90");
        DUE.is("46: FOG ahead", x.meet(0, 1, 0, 1, 1), 2);
        DUE.row("46: FOG ahead", 0);
        DUE.is("46: a WALL", x.meet(0, 6, 0, 1, 1), -1);
        DUE.is("46: a WALL first", x.meet(6, 0, 0, 1, 1), -1);
        DUE.is("46: HOUR", x.meet(0, 1, 1000, 1, 1), -1);
        DUE.is("46: STRENGTH", x.meet(0, 1, 0, 10, 1), -1);
        DUE.is("46: the other STRENGTH", x.meet(0, 1, 0, 1, -2), -1);
        DUE.row("46: refused", 0);
        DUE.fog("99999990");
        DUE.town("......");
        DUE.is("46: 24", x.meet(0, 5, 0, 9, 9), 24);
        DUE.row("46: 24", 2);
        DUE.is("46: from HOUR 7 on", x.meet(0, 5, 7, 9, 9), 17);
        DUE.is("46: not within 24", x.meet(0, 5, 0, 9, 0), -2);
    }

    private static void lead() {
        FinedBySight x = DUE.fresh(TOWN);
        DUE.fog("03");
        // Led by 0, 1, 2, 3, 4 with 2: 4, 0, 6, 0, and at 4: 3, 2, 9, 14. Alone, in every other HOUR: 4, 3, 6, 3.
        DUE.is("47: wage and fee", x.lead(0, 4, 0, 2, 5), 4 + 6 + 4 + 20);
        DUE.row("47: alone", 4 + 3 + 6 + 3);
        DUE.is("47: alone it can't go", x.lead(0, 4, 0, 0, 99), 4 * 99);
        DUE.row("47: alone it can't go", -2);
        DUE.is("47: BLIND itself", x.lead(0, 4, 0, -1, 1), 4);
        DUE.row("47: BLIND itself", 0);
        DUE.is("47: like ones", x.lead(0, 0, 0, 2, 99), 4);
        DUE.row("47: like ones", 4);
        DUE.is("47: no wage", x.lead(0, 4, 0, 2, 0), 14);
        DUE.is("47: wage 100", x.lead(0, 4, 0, 2, 100), -1);
        DUE.is("47: wage -1", x.lead(0, 4, 0, 2, -1), -1);
        DUE.fog("");
        DUE.rule("c");
        DUE.is("47: by the way that way() tells", x.lead(0, 12, 0, 0, 0), 1 + 2 + 7 + 12);
        DUE.town("..#.");
        DUE.is("47: no way", x.lead(0, 3, 0, 9, 1), -2);
        DUE.row("47: no way, the ROW stays", -2);
    }

    private static void ropesNeverErr() {
        FinedBySight x = DUE.fresh("..../....");
        x.err(9);
        x.rope(3, 0);
        DUE.is("Terms 2: along it", x.safe(0, 3, 0, 0), 3);
        DUE.is("Terms 2: back", x.safe(3, 0, 0, 0), 3);
        DUE.is("Terms 2: not off it", x.safe(0, 4, 0, 0), -2);
        x.rope(4, 7);
        DUE.is("Terms 2: not from one to another", x.safe(0, 4, 0, 0), -2);
        x.rope(2, 6);
        DUE.is("Terms 2: by a third", x.safe(0, 4, 0, 0), 2 + 1 + 2);
        DUE.row("Terms 2: by a third", 1, 1, 2, 3, 3);
    }
}
