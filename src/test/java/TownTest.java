/** Promises 1 to 13: the new object and the town. */
public final class TownTest {
    private static final Due DUE = new Due();
    private static final String DIGITS = "012345678901234567890123";

    public static void main(String[] args) {
        newObject();
        sign();
        end();
        town();
        townFaults();
        townTakesAway();
        fog();
        rule();
        ruleFaults();
        ruleLength();
        yardAndLamp();
        errAndThick();
        sheet();
        rope();
        unrope();
        DUE.close("TownTest");
    }

    private static void newObject() {
        FinedBySight x = DUE.fresh();
        int[] due = {1, 1, 1, 0, 0, 0, 0, 0, 0};
        for (int what = 0; what < due.length; what++) {
            DUE.is("1: count(" + what + ")", x.count(what), due[what]);
        }
        DUE.is("1: yard(0)", x.yard(0), 0);
        DUE.is("1: yard(1)", x.yard(1), -1);
        DUE.is("1: err(0)", x.err(0), 0);
        DUE.is("1: thick(999)", x.thick(999), 0);
        DUE.is("1: owed(0, 0, 9)", x.owed(0, 0, 9), 0);
        DUE.is("1: light(0, 1)", x.light(0, 1), 0);
        DUE.is("1: again(0)", x.again(0), false);
        DUE.row("1: light", 1);
    }

    private static void sign() {
        FinedBySight x = DUE.fresh();
        for (int k = 1; k <= 20; k++) {
            DUE.is("2: sign", x.sign('.' << 24 | '#' << 16 | '1' << 8 | '/'), 4 * k);
        }
        DUE.is("2: sign 84", x.sign(0), -1);
        DUE.is("2: count", x.count(8), 80);
        x.end(77);
        DUE.is("2: sign 81", x.sign(0), -1);
        DUE.is("2: count 77", x.count(8), 77);
        x.end(76);
        DUE.is("2: sign 80", x.sign(0), 80);
        x.end(3);
        DUE.is("2: highest byte first", x.town(), 3);
        DUE.is("2: street", x.yard(0), 0);
        DUE.is("2: wall", x.yard(1), 10);
        DUE.is("2: lamp", x.yard(2), 1);
        x.sign(0xAE2E2E2E);
        DUE.is("2: a byte above 127 is no street", x.town(), -1);
    }

    private static void end() {
        FinedBySight x = DUE.fresh();
        x.sign('1' << 24 | '2' << 16 | '3' << 8 | '4');
        DUE.is("3: end(5)", x.end(5), false);
        DUE.is("3: end(-1)", x.end(-1), false);
        DUE.is("3: count", x.count(8), 4);
        DUE.is("3: end(4)", x.end(4), true);
        DUE.is("3: end(2)", x.end(2), true);
        DUE.is("3: end(3)", x.end(3), false);
        DUE.is("3: fog", x.fog(), 2);
        DUE.is("3: thick(1)", x.thick(1), 2);
        DUE.is("3: end(0)", x.end(0), true);
        DUE.is("3: end(MAX)", x.end(Integer.MAX_VALUE), false);
        DUE.is("3: end(MIN)", x.end(Integer.MIN_VALUE), false);
    }

    private static void town() {
        FinedBySight x = DUE.fresh();
        DUE.is("4: 36 YARDS", DUE.town("....../....../..9.../....../....../.....#"), 36);
        DUE.is("4: WIDE", x.count(1), 6);
        DUE.is("4: emptied", x.count(8), 0);
        DUE.is("4: LAMP", x.yard(14), 9);
        DUE.is("4: WALL", x.yard(35), 10);
        DUE.is("4: a column", DUE.town("./#/1/././9"), 6);
        DUE.is("4: WIDE 1", x.count(1), 1);
        DUE.is("4: no WALLS", x.count(2), 5);
        DUE.is("4: LAMPS", x.count(3), 2);
        DUE.is("4: 5", x.yard(5), 9);
        DUE.is("4: 6", x.yard(6), -1);
        DUE.is("4: WALLS alone", DUE.town("##"), 2);
        DUE.is("4: none that is no WALL", x.count(2), 0);
    }

    private static void townFaults() {
        String[] texts = {"", "x", "/", "0", ".0", ".......", "......#", "......x", "./", "../.", "../...", ".././..",
            "./..", "..//..", "../..x", "./././././.", "././././././", "././././././.", "././././././/",
            "././././././x", "../../", "../../.", ". ", "#########"};
        int[] places = {0, 0, 0, 0, 1, 6, 6, 6, 2, 4, 5, 4, 3, 3, 5, -1, 12, 12, 12, 12, 6, 7, 1, 6};
        for (int k = 0; k < texts.length; k++) {
            FinedBySight x = DUE.fresh("12/34");
            DUE.fog("7");
            x.rope(0, 1);
            DUE.walk("r", 2, 0, 0, 1);
            DUE.is("4: town \"" + texts[k] + "\"", DUE.town(texts[k]), places[k] < 0 ? 6 : -1 - places[k]);
            DUE.is("4: emptied", x.count(8), 0);
            if (places[k] >= 0) {
                DUE.is("4: as it was", x.count(0), 4);
                DUE.is("4: a LAMP as it was", x.yard(3), 4);
                DUE.is("4: ROPES as they were", x.count(4), 1);
                DUE.is("4: WALKS as they were", x.count(5), 4);
            }
        }
    }

    private static void townTakesAway() {
        FinedBySight x = DUE.fresh("...");
        DUE.fog("12");
        DUE.rule("7");
        x.err(3);
        x.rope(0, 2);
        DUE.walk("r", 0, 0, 0, 1);
        x.lit(0);
        DUE.is("4: town", DUE.town("..."), 3);
        DUE.is("4: no ROPES", x.count(4), 0);
        DUE.is("4: no WALKS", x.count(5), 0);
        DUE.is("4: FOG stays", x.count(6), 2);
        DUE.is("4: the ROW stays", x.count(7), 2);
        DUE.is("4: THE RULE stays", x.owed(0, 0, 0), 7);
        DUE.is("4: ERR stays", x.err(3), 3);
    }

    private static void fog() {
        FinedBySight x = DUE.fresh();
        DUE.is("5: 24 digits", DUE.fog(DIGITS), 24);
        DUE.is("5: the last digit", x.thick(23), 3);
        DUE.is("5: behind it the first one", x.thick(24), 0);
        DUE.is("5: emptied", x.count(8), 0);
        DUE.is("5: 25 digits", DUE.fog(DIGITS + "4"), -25);
        DUE.is("5: emptied too", x.count(8), 0);
        DUE.is("5: 24 and another sign", DUE.fog(DIGITS + "x"), -25);
        DUE.is("5: another sign ahead of 24", DUE.fog("1/" + DIGITS), -2);
        DUE.is("5: a sign behind 9", DUE.fog("1:"), -2);
        DUE.is("5: as it was", x.count(6), 24);
        DUE.is("5: one digit", DUE.fog("9"), 1);
        DUE.is("5: always", x.thick(999), 9);
        DUE.is("5: an empty one", DUE.fog(""), 0);
        DUE.is("5: none", x.thick(5), 0);
    }

    private static void rule() {
        FinedBySight x = DUE.fresh("..9/###");
        DUE.fog("0123");
        String[] texts = {"y", "s", "f", "h", "l", "c", "7+2*3", "7-2-3", "(7-2)*3", "100/7/2", "7/0", "0-7/2+10",
            "-7/2+10", "--7", "---7+20", "7*-2+20", "-(2-9)", "2<3", "3<2", "2>1", "1>2", "2=2", "2=3", "1+1=2*1",
            "(1<2)+(3>2)+4", "((((5))))", "999", "999+1", "0-1", "-2*-3", "007", "999*999*999*999*999", "1=1*5",
            "10-(2<3)", "y*s", "0-999*999*999*999*999", "9--3", "-h+90", "6/-4+9", "2*3/4", "(y<3)=(s>1)", "--(--1)"};
        int[] due = {2, 5, 1, 45, 1, 1, 13, 2, 15, 7, 0, 7, 7, 7, 13, 6, 7, 1, 0, 1, 0, 1, 0, 1, 6, 5, 999, 999, 0,
            6, 7, 999, 0, 9, 10, 0, 12, 45, 8, 1, 1, 1};
        // As ints: what runs over goes round, and only the end is put to 0 .. 999.
        due[31] = clamp(999 * 999 * 999 * 999 * 999);
        due[35] = clamp(-(999 * 999 * 999 * 999 * 999));
        for (int k = 0; k < texts.length; k++) {
            DUE.is("6: rule " + texts[k], DUE.rule(texts[k]), 0);
            DUE.is("6: owed by " + texts[k], x.owed(1, 45, 5), due[k]);
        }
        DUE.is("6: a BLIND one", x.owed(1, 45, -1), 0);
        DUE.is("6: an empty one", DUE.rule(""), 0);
        DUE.is("6: y", x.owed(1, 45, 5), 2);
    }

    private static int clamp(int v) {
        return Math.max(0, Math.min(999, v));
    }

    private static void ruleFaults() {
        String[] texts = {"x", "+", "y+", "y-", "-", "y y", "yy", "y5", "5y", "1000", "y+1234", "y<s<f", "y<s+1=f",
            "(y<s<f)", "(y", "(y+", "()", "y)", "(y))", "((((y", "(((((y", "y(", ")(", "y++y", "y*/y", "y<=s", "<y",
            "(1)2", "y=", "--", "y*", "Y", "(y<s)<(f>h", "y<s)<f"};
        int[] places = {0, 0, 2, 2, 1, 1, 1, 1, 1, 3, 5, 3, 5, 4, 2, 3, 1, 1, 3, 5, 4, 1, 0, 2, 2, 2, 0, 3, 2, 2, 2, 0,
            10, 3};
        for (int k = 0; k < texts.length; k++) {
            FinedBySight x = DUE.fresh();
            DUE.rule("77");
            DUE.is("6: rule " + texts[k], DUE.rule(texts[k]), -1 - places[k]);
            DUE.is("6: emptied", x.count(8), 0);
            DUE.is("6: as it was", x.owed(0, 0, 0), 77);
        }
    }

    private static void ruleLength() {
        String forty = "1+1+1+1+1+1+1+1+1+1+1+1+1+1+1+1+1+1+1+10";
        FinedBySight x = DUE.fresh();
        DUE.is("6: 40 signs", DUE.rule(forty), 0);
        DUE.is("6: their sum", x.owed(0, 0, 0), 29);
        DUE.is("6: 41 signs", DUE.rule(forty + "1"), -41);
        DUE.is("6: 41 signs, a wrong one last", DUE.rule(forty + "x"), -41);
        DUE.is("6: 41, the first 40 go on", DUE.rule("(" + forty.substring(0, 39) + ")"), -41);
        DUE.is("6: 41, a wrong sign ahead", DUE.rule("1+x" + forty), -3);
        DUE.is("6: 40 that end too early", DUE.rule(forty.substring(0, 39) + "+"), -41);
        DUE.is("6: wrong at 39", DUE.rule(forty.substring(0, 39) + "(9"), -40);
        DUE.is("6: 39 minus", DUE.rule("---------------------------------------9"), 0);
        DUE.is("6: their worth", x.owed(0, 0, 0), 0);
        DUE.is("6: 38 minus", DUE.rule("--------------------------------------9"), 0);
        DUE.is("6: their worth too", x.owed(0, 0, 0), 9);
    }

    private static void yardAndLamp() {
        FinedBySight x = DUE.fresh(".#5");
        DUE.is("7: street", x.yard(0), 0);
        DUE.is("7: WALL", x.yard(1), 10);
        DUE.is("7: LAMP", x.yard(2), 5);
        DUE.is("7: 3", x.yard(3), -1);
        DUE.is("7: -1", x.yard(-1), -1);
        DUE.is("7: MAX", x.yard(Integer.MAX_VALUE), -1);
        DUE.is("8: lamp(0, 9)", x.lamp(0, 9), 0);
        DUE.is("8: lamp(0, 3)", x.lamp(0, 3), 9);
        DUE.is("8: lamp(2, 0)", x.lamp(2, 0), 5);
        DUE.is("8: becomes a street", x.yard(2), 0);
        DUE.is("8: becomes a LAMP", x.yard(0), 3);
        DUE.is("8: a WALL", x.lamp(1, 3), -1);
        DUE.is("8: 10", x.lamp(0, 10), -1);
        DUE.is("8: -1", x.lamp(0, -1), -1);
        DUE.is("8: YARD 3", x.lamp(3, 1), -1);
        DUE.is("8: YARD -1", x.lamp(-1, 1), -1);
        DUE.is("8: as it was", x.yard(0), 3);
        DUE.is("8: LAMPS", x.count(3), 1);
    }

    private static void errAndThick() {
        FinedBySight x = DUE.fresh("..");
        DUE.is("9: err(9)", x.err(9), 0);
        DUE.is("9: err(10)", x.err(10), -1);
        DUE.is("9: err(-1)", x.err(-1), -1);
        DUE.is("9: err(0)", x.err(0), 9);
        DUE.is("9: err(0) again", x.err(0), 0);
        DUE.fog("052");
        DUE.is("10: thick(0)", x.thick(0), 0);
        DUE.is("10: thick(4)", x.thick(4), 5);
        DUE.is("10: thick(999)", x.thick(999), 0);
        DUE.is("10: thick(998)", x.thick(998), 2);
        DUE.is("10: thick(1000)", x.thick(1000), -1);
        DUE.is("10: thick(-1)", x.thick(-1), -1);
    }

    private static void sheet() {
        FinedBySight x = DUE.fresh();
        DUE.is("11: ints", x.sheet(2, 4, -2, 3), 0 + 1 + 4 + 7);
        DUE.is("11: count", x.count(6), 4);
        DUE.is("11: thick(3)", x.thick(3), 7);
        DUE.is("11: bytes", x.sheet(0, 3, 250, 4), 0 + 0 + 2);
        DUE.is("11: bytes with their sign", x.sheet(0, 1, 128, 0), 0);
        DUE.is("11: bytes up to 127", x.sheet(0, 1, 127, 0), 9);
        DUE.is("11: shorts", x.sheet(1, 3, 65530, 4), 0 + 0 + 2);
        DUE.is("11: shorts of 250", x.sheet(1, 2, 250, 1), 18);
        DUE.is("11: shorts with their sign", x.sheet(1, 1, 32768, 0), 0);
        DUE.is("11: ints of 65536", x.sheet(2, 1, 65536, 0), 9);
        DUE.is("11: ints go round", x.sheet(2, 3, Integer.MAX_VALUE, 1), 9);
        DUE.is("11: 24", x.sheet(2, 24, 1, 0), 24);
        DUE.is("11: 25", x.sheet(2, 25, 2, 0), -1);
        DUE.is("11: missing, 25", x.sheet(3, 25, 2, 0), -1);
        DUE.is("11: kind 4", x.sheet(4, 1, 2, 0), -1);
        DUE.is("11: kind -1", x.sheet(-1, 1, 2, 0), -1);
        DUE.is("11: kind 4, n below 0", x.sheet(4, -1, 2, 0), -1);
        DUE.is("11: n below 0", x.sheet(0, -1, 2, 0), -2);
        DUE.is("11: n far below 0", x.sheet(2, Integer.MIN_VALUE, 2, 0), -2);
        DUE.is("11: as it was", x.count(6), 24);
        DUE.is("11: missing", x.sheet(3, 5, 2, 0), -3);
        DUE.is("11: no FOG", x.count(6), 0);
        x.sheet(2, 1, 3, 0);
        DUE.is("11: missing, n below 0", x.sheet(3, -1, 2, 0), -3);
        DUE.is("11: no FOG again", x.thick(0), 0);
        x.sheet(2, 1, 3, 0);
        DUE.is("11: no entries", x.sheet(1, 0, 2, 0), 0);
        DUE.is("11: none", x.count(6), 0);
    }

    private static void rope() {
        FinedBySight x = DUE.fresh(".../.#./...");
        DUE.is("12: a row", x.rope(0, 2), 1);
        DUE.is("12: a column, from below", x.rope(8, 2), 2);
        DUE.is("12: like ones", x.rope(0, 0), -2);
        DUE.is("12: neither row nor column", x.rope(0, 5), -2);
        DUE.is("12: a WALL between", x.rope(3, 5), -2);
        DUE.is("12: a WALL between in a column", x.rope(7, 1), -2);
        DUE.is("12: a WALL", x.rope(4, 0), -1);
        DUE.is("12: onto a WALL", x.rope(3, 4), -1);
        DUE.is("12: YARD 9", x.rope(0, 9), -1);
        DUE.is("12: YARD -1", x.rope(-1, 0), -1);
        DUE.is("12: neighbours by number alone", x.rope(2, 3), -2);
        DUE.is("12: the same again", x.rope(0, 2), 3);
        DUE.is("12: 4", x.rope(0, 1), 4);
        DUE.is("12: 5", x.rope(6, 0), 5);
        DUE.is("12: 6", x.rope(6, 8), 6);
        DUE.is("12: 7", x.rope(0, 1), -3);
        DUE.is("12: 7, a WALL", x.rope(4, 4), -3);
        DUE.is("12: 7, no YARD", x.rope(99, -7), -3);
        DUE.is("12: count", x.count(4), 6);
    }

    private static void unrope() {
        FinedBySight x = DUE.fresh(".../...");
        DUE.is("13: none", x.unrope(), -1);
        x.rope(0, 2);
        x.rope(0, 3);
        DUE.is("13: the latest", x.unrope(), 1);
        DUE.is("13: the first is left", x.safe(0, 2, 0, 0), 2);
        DUE.is("13: the second is not", x.safe(0, 3, 0, 0), -2);
        DUE.is("13: the first", x.unrope(), 0);
        DUE.is("13: none again", x.unrope(), -1);
        DUE.is("13: nothing is left", x.safe(0, 2, 0, 0), -2);
    }
}
