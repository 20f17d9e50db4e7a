/** Promises 1 to 13: each sentence that names a boundary. */
public final class TownEdgesTest {
    private static final Due DUE = new Due();
    private static final int MIN = Integer.MIN_VALUE;
    private static final int MAX = Integer.MAX_VALUE;
    private static final String SIX = "././././././";
    private static final String EIGHTY = "1+1+1+1+1+1+1+1+1+1+1+1+1+1+1+1+1+1+1+1+1+1+1+1+1+1+1+1+1+1+1+1+1+1+1+1+1+1+1+1+";

    public static void main(String[] args) {
        newObject();
        apart();
        signOrder();
        signFull();
        endEdges();
        endThenSign();
        townEndsTooEarly();
        townSeventhSign();
        townSeventhRow();
        townShortRow();
        townLongRow();
        townFirstFault();
        townSigns();
        townTakesAway();
        fogLength();
        fogFaults();
        ruleLength();
        ruleEndsTooEarly();
        ruleFirstFault();
        ruleBehindFault();
        yardKinds();
        lampBecomes();
        errBecomes();
        thickHours();
        sheetBytes();
        sheetShorts();
        sheetInts();
        sheetLength();
        sheetMissing();
        ropeEnds();
        ropeNot();
        ropeFull();
        unropeLatest();
        DUE.close("TownEdgesTest");
    }

    private static void newObject() {
        FinedBySight x = DUE.fresh();
        int[] due = {1, 1, 1, 0, 0, 0, 0, 0, 0};
        for (int what = 0; what < due.length; what++) {
            DUE.is("1: count(" + what + ")", x.count(what), due[what]);
        }
        DUE.row("1: no ROW");
        DUE.is("1: a street", x.yard(0), 0);
        DUE.is("1: one alone", x.yard(1), -1);
        DUE.is("1: no FOG", x.thick(0), 0);
        DUE.is("1: nothing kept under 0", x.again(0), false);
        DUE.is("1: nothing kept under 1", x.again(1), false);
        DUE.is("1: no ROPE", x.unrope(), -1);
        DUE.is("1: no WALK", x.drop(0), false);
        DUE.is("1: ERR", x.err(9), 0);
        DUE.is("1: no STEP leads out of it", DUE.walk("urdl", 0, 0, 0, 9), 0);
        DUE.is("1: nothing to be seen", x.saw(0), 0);
        DUE.is("1: one to come to", x.reach(0, 0, 9, 24), 1);
    }

    /** What one object is told is nothing to another one. */
    private static void apart() {
        FinedBySight x = new FinedBySight();
        Scenes.full(x);
        newObject();
        DUE.is("1: another one is as it was", x.count(0), 18);
        DUE.is("1: its TEXT too", x.count(8), 80);
    }

    private static void signOrder() {
        FinedBySight x = DUE.fresh();
        DUE.is("2: four", x.sign('1' << 24 | '2' << 16 | '3' << 8 | '4'), 4);
        DUE.is("2: four behind them", x.sign('5' << 24 | '6' << 16 | '7' << 8 | '8'), 8);
        DUE.is("2: as FOG", x.fog(), 8);
        for (int h = 0; h < 8; h++) {
            DUE.is("2: the highest byte first, " + h, x.thick(h), h + 1);
        }
        int[] one = {0xB12E2E2E, 0x2EB12E2E, 0x2E2EB12E, 0x2E2E2EB1};
        for (int p = 0; p < 4; p++) {
            x.sign(one[p]);
            DUE.is("2: a sign of 177 at " + p + " is not the sign 49", x.town(), -1 - p);
        }
        x.sign(-1);
        DUE.is("2: signs of 255", x.count(8), 4);
        DUE.is("2: they can't stand in a town", x.town(), -1);
        x.sign(0);
        DUE.is("2: signs of 0", x.count(8), 4);
        DUE.is("2: they are signs", x.fog(), -1);
    }

    private static void signFull() {
        for (int behind = 0; behind < 4; behind++) {
            FinedBySight x = DUE.fresh();
            for (int k = 0; k < 19; k++) {
                x.sign('1' << 24 | '1' << 16 | '1' << 8 | '1');
            }
            x.sign(0);
            x.end(76 + behind);
            DUE.is("2: behind " + (76 + behind), x.sign(0), behind == 0 ? 80 : -1);
            DUE.is("2: signs", x.count(8), behind == 0 ? 80 : 76 + behind);
        }
        FinedBySight x = DUE.fresh();
        for (int k = 1; k <= 20; k++) {
            DUE.is("2: sign " + k, x.sign(0), 4 * k);
        }
        DUE.is("2: one more", x.sign(0), -1);
        DUE.is("2: and again", x.sign(0), -1);
        DUE.is("2: full", x.count(8), 80);
        x.town();
        DUE.is("2: a call that read it", x.sign(0), 4);
    }

    private static void endEdges() {
        FinedBySight x = DUE.fresh();
        DUE.is("3: of an empty one", x.end(0), true);
        DUE.is("3: of an empty one, 1", x.end(1), false);
        DUE.is("3: of an empty one, -1", x.end(-1), false);
        x.sign(0);
        for (int n = -2; n <= 6; n++) {
            FinedBySight y = DUE.fresh();
            y.sign(0);
            DUE.is("3: end(" + n + ") of 4", y.end(n), n >= 0 && n <= 4);
            DUE.is("3: signs behind end(" + n + ")", y.count(8), n >= 0 && n <= 4 ? n : 4);
        }
        DUE.is("3: MAX", x.end(MAX), false);
        DUE.is("3: MIN", x.end(MIN), false);
        DUE.is("3: as it was", x.count(8), 4);
    }

    private static void endThenSign() {
        FinedBySight x = DUE.fresh();
        DUE.tell("12345678");
        x.end(5);
        DUE.is("3: signs come behind the first n", x.sign('9' << 24 | '8' << 16 | '7' << 8 | '6'), 9);
        DUE.is("3: FOG", x.fog(), 9);
        String due = "123459876";
        for (int h = 0; h < 9; h++) {
            DUE.is("3: sign " + h, x.thick(h), due.charAt(h) - '0');
        }
        DUE.tell("1234");
        x.end(2);
        DUE.is("3: what was cut off is gone", x.end(3), false);
    }

    private static void fault(String text, int place) {
        FinedBySight x = DUE.fresh("12/34");
        x.rope(0, 1);
        DUE.walk("r", 1, 0, 0, 0);
        DUE.is("4: \"" + text + "\"", DUE.town(text), -1 - place);
        DUE.is("4: THE TEXT is empty behind \"" + text + "\"", x.count(8), 0);
        DUE.is("4: YARDS behind \"" + text + "\"", x.count(0), 4);
        DUE.is("4: LAMPS behind \"" + text + "\"", x.count(3), 4);
        DUE.is("4: ROPES behind \"" + text + "\"", x.count(4), 1);
        DUE.is("4: WALKS behind \"" + text + "\"", x.count(5), 2);
    }

    /** Its end, if it ends too early. */
    private static void townEndsTooEarly() {
        fault("", 0);
        fault("./", 2);
        fault("....../", 7);
        fault("../../", 6);
        fault("./././././", 10);
        fault(SIX, 12);
    }

    /** A seventh sign of a row. */
    private static void townSeventhSign() {
        fault(".......", 6);
        fault("......#", 6);
        fault("......9", 6);
        fault("......x", 6);
        fault("....../.......", 13);
        fault("....../....../....../....../....../.......", 41);
        DUE.fresh();
        DUE.is("4: six signs", DUE.town("......"), 6);
        DUE.is("4: six signs in each row", DUE.town("....../......"), 12);
    }

    /** A seventh row's first sign. */
    private static void townSeventhRow() {
        fault(SIX + ".", 12);
        fault(SIX + "#", 12);
        fault(SIX + "1", 12);
        fault(SIX + "/", 12);
        fault(SIX + "x", 12);
        fault("....../....../....../....../....../....../.", 42);
        DUE.fresh();
        DUE.is("4: six rows", DUE.town("./././././."), 6);
        DUE.is("4: six rows of six", DUE.town("....../....../....../....../....../......"), 36);
    }

    /** A / or the end where the row is shorter than the first one. */
    private static void townShortRow() {
        fault("/", 0);
        fault("/.", 0);
        fault("..//..", 3);
        fault(".././..", 4);
        fault("../../.", 7);
        fault("../.", 4);
        fault("....../.....", 12);
        fault("....../...../......", 12);
        fault("..././...", 5);
    }

    /** A sign more than that has. */
    private static void townLongRow() {
        fault("./..", 3);
        fault("./.x", 3);
        fault("../..#", 5);
        fault("../../..1/..", 8);
        fault("...../......", 11);
    }

    private static void townFirstFault() {
        fault("x/..", 0);
        fault(".x/x", 1);
        fault("./..x", 3);
        fault("..x", 2);
        fault(EIGHTY.replace('+', '.'), 6);
        fault(".\0\0\0", 1);
    }

    private static void townSigns() {
        String allowed = ".#123456789";
        for (int sign = 0; sign < 256; sign++) {
            FinedBySight x = DUE.fresh("12/34");
            x.sign('.' << 24 | sign << 16);
            x.end(2);
            boolean stands = allowed.indexOf(sign) >= 0;
            // A / could stand there, but not the end behind it.
            DUE.is("4: sign " + sign, x.town(), stands ? 2 : sign == '/' ? -3 : -2);
            int kind = sign == '.' ? 0 : sign == '#' ? 10 : sign - '0';
            DUE.is("4: what sign " + sign + " tells", x.yard(1), stands ? kind : 2);
        }
    }

    /** There are no ROPES, no WALKS then. */
    private static void townTakesAway() {
        FinedBySight x = new FinedBySight();
        Scenes.full(x);
        DUE.is("4: the same town", Scenes.town(x, "....../#####./.....9"), 18);
        DUE.is("4: no ROPES", x.count(4), 0);
        DUE.is("4: none to take away", x.unrope(), -1);
        DUE.is("4: no WALKS", x.count(5), 0);
        for (int i = 0; i < 4; i++) {
            DUE.is("4: no WALK " + i, x.at(i, 5), -1);
        }
        DUE.is("4: FOG stays", x.count(6), 24);
        DUE.is("4: FOG stays as it was", x.thick(23), 3);
        DUE.is("4: the ROW stays", x.count(7), 11);
        DUE.is("4: ERR stays", x.err(0), 9);
        DUE.is("4: THE TEXT is empty", x.count(8), 0);
        DUE.is("4: a smaller one", Scenes.town(x, "9"), 1);
        DUE.is("4: its YARDS alone", x.yard(1), -1);
        DUE.is("4: nothing of the old one is LIT", x.lit(0), 1);
        DUE.is("4: nothing of the old one is seen", x.sees(0, 0, 9), 0);
    }

    private static void fogLength() {
        String digits = "9876543210987654321098765432109876543210987654321098765432109876543210987654321098765432";
        for (int n = 0; n <= 80; n++) {
            FinedBySight x = DUE.fresh();
            DUE.fog("7");
            DUE.is("5: " + n + " digits", DUE.fog(digits.substring(0, n)), n <= 24 ? n : -25);
            DUE.is("5: digits of " + n, x.count(6), n <= 24 ? n : 1);
            DUE.is("5: the last of " + n, x.thick(n == 0 ? 5 : n - 1),
                    n == 0 ? 0 : n <= 24 ? digits.charAt(n - 1) - '0' : 7);
            DUE.is("5: THE TEXT is empty", x.count(8), 0);
        }
    }

    /** The sign at p can't stand there (24, if it has more and the first 24 could go on or end). */
    private static void fogFaults() {
        for (int p = 0; p <= 30; p++) {
            FinedBySight x = DUE.fresh();
            DUE.fog("86");
            StringBuilder text = new StringBuilder("11111111111111111111111111111111");
            text.setCharAt(p, 'x');
            DUE.is("5: x at " + p + " of 32", DUE.fog(text.toString()), -1 - Math.min(p, 24));
            DUE.is("5: x last, at " + p, DUE.fog(text.substring(0, p + 1)), -1 - Math.min(p, 24));
            DUE.is("5: as it was", x.thick(1), 6);
        }
        for (int sign = 0; sign < 256; sign++) {
            FinedBySight x = DUE.fresh();
            x.sign('5' << 24 | sign << 16);
            x.end(2);
            boolean digit = sign >= '0' && sign <= '9';
            DUE.is("5: sign " + sign, x.fog(), digit ? 2 : -2);
            DUE.is("5: FOG of sign " + sign, x.thick(1), digit ? sign - '0' : 0);
        }
    }

    private static void ruleLength() {
        for (int n = 1; n <= 80; n++) {
            FinedBySight x = DUE.fresh();
            DUE.rule("77");
            String text = EIGHTY.substring(0, n);
            int due = n > 40 ? -41 : n % 2 == 0 ? -1 - n : 0;
            DUE.is("6: " + n + " signs", DUE.rule(text), due);
            DUE.is("6: owed by " + n + " signs", x.owed(0, 0, 0), due == 0 ? (n + 1) / 2 : 77);
            DUE.is("6: THE TEXT is empty", x.count(8), 0);
        }
        FinedBySight x = DUE.fresh();
        DUE.is("6: 40 that end", DUE.rule(EIGHTY.substring(0, 38) + "12"), 0);
        DUE.is("6: owed by 40", x.owed(0, 0, 0), 31);
        DUE.is("6: 41 of which 40 end", DUE.rule(EIGHTY.substring(0, 38) + "12+"), -41);
        DUE.is("6: 41, the last of which could not stand", DUE.rule(EIGHTY.substring(0, 38) + "12("), -41);
        DUE.is("6: 41 of which 40 go on", DUE.rule(EIGHTY.substring(0, 40) + "1"), -41);
        DUE.is("6: 41 of which 40 leave a bracket open", DUE.rule("(" + EIGHTY.substring(0, 39) + ")"), -41);
        DUE.is("6: an empty one", DUE.rule(""), 0);
        DUE.is("6: y again", x.owed(0, 0, 0), 0);
    }

    /** Its end, if it ends too early. */
    private static void ruleEndsTooEarly() {
        String[] texts = {"-", "--", "y+", "y-", "y*", "y/", "y<", "y>", "y=", "(", "(y", "((y)", "y+(", "y-(-", "(1<2"};
        for (String text : texts) {
            FinedBySight x = DUE.fresh();
            DUE.rule("5");
            DUE.is("6: \"" + text + "\" ends too early", DUE.rule(text), -1 - text.length());
            DUE.is("6: as it was", x.owed(0, 0, 0), 5);
        }
        DUE.is("6: 40 that end too early", DUE.rule(EIGHTY.substring(0, 40)), -41);
        DUE.is("6: 40 with an open bracket", DUE.rule("(" + EIGHTY.substring(0, 39)), -41);
    }

    private static void ruleFirstFault() {
        for (int p = 0; p < 45; p++) {
            StringBuilder text = new StringBuilder(EIGHTY);
            text.setCharAt(p, 'x');
            DUE.fresh();
            DUE.is("6: x at " + p + " of 80", DUE.rule(text.toString()), -1 - Math.min(p, 40));
        }
        String things = "ysfhlc0123456789";
        String behind = "+-*/<>=";
        for (int sign = 0; sign < 256; sign++) {
            FinedBySight x = DUE.fresh();
            x.sign(sign << 24);
            x.end(1);
            boolean opens = sign == '-' || sign == '(';
            DUE.is("6: sign " + sign + " first", x.rule(), opens ? -2 : things.indexOf(sign) >= 0 ? 0 : -1);
            x.sign('y' << 24 | sign << 16);
            x.end(2);
            DUE.is("6: sign " + sign + " behind a thing", x.rule(), behind.indexOf(sign) >= 0 ? -3 : -2);
            x.sign('(' << 24 | '9' << 16 | sign << 8);
            x.end(3);
            boolean goesOn = behind.indexOf(sign) >= 0 || sign == ')' || sign >= '0' && sign <= '9';
            DUE.is("6: sign " + sign + " behind a digit", x.rule(), sign == ')' ? 0 : goesOn ? -4 : -3);
        }
    }

    /** A text that was refused is nothing to the next one. */
    private static void ruleBehindFault() {
        String[] texts = {"-", "--", "1-", "3*", "2+(", "((((", "-(", "1<", "(1<2", "12x", "1<2<3", "999*-("};
        for (String text : texts) {
            FinedBySight x = DUE.fresh();
            DUE.rule(text);
            DUE.is("6: behind \"" + text + "\"", DUE.rule("5"), 0);
            DUE.is("6: owed behind \"" + text + "\"", x.owed(0, 0, 0), 5);
            DUE.rule(text);
            DUE.is("6: one that compares, behind \"" + text + "\"", DUE.rule("(((8<9))+2)*3"), 0);
            DUE.is("6: owed by it", x.owed(0, 0, 0), 9);
            DUE.rule(text);
            DUE.is("6: none behind \"" + text + "\"", DUE.rule(""), 0);
            DUE.is("6: y", x.owed(0, 0, 9), 0);
        }
    }

    private static void yardKinds() {
        FinedBySight x = DUE.fresh(".1.9#");
        int[] due = {0, 1, 0, 9, 10};
        for (int y = 0; y < 5; y++) {
            DUE.is("7: YARD " + y, x.yard(y), due[y]);
        }
        DUE.is("7: behind the last", x.yard(5), -1);
        DUE.is("7: ahead of the first", x.yard(-1), -1);
    }

    private static void lampBecomes() {
        FinedBySight x = DUE.fresh(".9#");
        int before = 0;
        for (int v = 9; v >= 0; v--) {
            DUE.is("8: lamp(0, " + v + ")", x.lamp(0, v), before);
            DUE.is("8: becomes " + v, x.yard(0), v);
            DUE.is("8: LAMPS", x.count(3), v == 0 ? 1 : 2);
            before = v;
        }
        DUE.is("8: a LAMP goes out", x.lamp(1, 0), 9);
        DUE.is("8: nothing is LIT", x.lit(0), 0);
        DUE.is("8: 10 is no WALL to be told", x.lamp(0, 10), -1);
        DUE.is("8: -1", x.lamp(0, -1), -1);
        DUE.is("8: a WALL", x.lamp(2, 0), -1);
        DUE.is("8: as they were", x.count(2), 2);
        DUE.is("8: a LAMP again", x.lamp(0, 1), 0);
        DUE.is("8: two are LIT", x.lit(0), 2);
    }

    private static void errBecomes() {
        FinedBySight x = DUE.fresh("..");
        int before = 0;
        for (int v = 9; v >= 0; v--) {
            DUE.is("9: err(" + v + ")", x.err(v), before);
            DUE.is("9: 10", x.err(10), -1);
            DUE.is("9: -1", x.err(-1), -1);
            before = v;
        }
    }

    /** NONE: another HOUR. */
    private static void thickHours() {
        FinedBySight x = DUE.fresh();
        int[] hours = {MIN, -1, 0, 1, 4, 5, 998, 999, 1000, 1001, MAX};
        int[] none = {-1, -1, 0, 0, 0, 0, 0, 0, -1, -1, -1};
        int[] five = {-1, -1, 5, 6, 9, 5, 8, 9, -1, -1, -1};
        int[] one = {-1, -1, 9, 9, 9, 9, 9, 9, -1, -1, -1};
        String[] fogs = {"", "56789", "9"};
        int[][] due = {none, five, one};
        for (int k = 0; k < fogs.length; k++) {
            DUE.fog(fogs[k]);
            for (int h = 0; h < hours.length; h++) {
                DUE.is("10: \"" + fogs[k] + "\" in HOUR " + hours[h], x.thick(hours[h]), due[k][h]);
            }
            DUE.row("10: it tells no ROW");
        }
    }

    private static void entry(int kind, int f, int due) {
        FinedBySight x = DUE.fresh();
        DUE.is("11: kind " + kind + " of " + f, x.sheet(kind, 1, f, 0), due);
        DUE.is("11: FOG by kind " + kind + " of " + f, x.thick(0), due);
    }

    /** Of bytes the lowest bits, with their sign; put to 0 .. 9. */
    private static void sheetBytes() {
        int[] f = {0, 1, 9, 10, 127, 128, 255, 256, 257, 265, 266, 383, 384, -1, -128, -129, -256, -251, MAX, MIN};
        int[] due = {0, 1, 9, 9, 9, 0, 0, 0, 1, 9, 9, 9, 0, 0, 0, 9, 0, 5, 0, 0};
        for (int k = 0; k < f.length; k++) {
            entry(0, f[k], due[k]);
        }
    }

    private static void sheetShorts() {
        int[] f = {0, 1, 9, 10, 128, 255, 256, 32767, 32768, 65535, 65536, 65541, 65545, 65546, -1, -32768, -32769,
            -65531, MAX, MIN};
        int[] due = {0, 1, 9, 9, 9, 9, 9, 9, 0, 0, 0, 5, 9, 9, 0, 0, 9, 5, 0, 0};
        for (int k = 0; k < f.length; k++) {
            entry(1, f[k], due[k]);
        }
    }

    private static void sheetInts() {
        int[] f = {0, 1, 9, 10, 128, 32768, 65536, MAX, -1, MIN};
        int[] due = {0, 1, 9, 9, 9, 9, 9, 9, 0, 0};
        for (int k = 0; k < f.length; k++) {
            entry(2, f[k], due[k]);
        }
        FinedBySight x = DUE.fresh();
        DUE.is("11: steps", x.sheet(2, 4, -2, 4), 0 + 2 + 6 + 9);
        int[] steps = {0, 2, 6, 9, 0};
        for (int h = 0; h < 5; h++) {
            DUE.is("11: entry " + h, x.thick(h), steps[h]);
        }
        DUE.is("11: steps down", x.sheet(2, 4, 12, -5), 9 + 7 + 2 + 0);
        DUE.is("11: steps go round", x.sheet(2, 3, MAX, 2), 9 + 0 + 0);
        DUE.is("11: steps down go round", x.sheet(2, 3, MIN, -1), 0 + 9 + 9);
        DUE.is("11: bytes go round", x.sheet(0, 3, 127, 129), 9 + 0 + 0);
        DUE.is("11: shorts go round", x.sheet(1, 3, 32767, 32769), 9 + 0 + 0);
    }

    private static void sheetLength() {
        for (int kind = 0; kind < 3; kind++) {
            FinedBySight x = DUE.fresh();
            DUE.is("11: 24 of kind " + kind, x.sheet(kind, 24, 9, 0), 216);
            DUE.is("11: digits", x.count(6), 24);
            DUE.is("11: 25 of kind " + kind, x.sheet(kind, 25, 9, 0), -1);
            DUE.is("11: MAX of kind " + kind, x.sheet(kind, MAX, 9, 0), -1);
            DUE.is("11: -1 of kind " + kind, x.sheet(kind, -1, 9, 0), -2);
            DUE.is("11: MIN of kind " + kind, x.sheet(kind, MIN, 9, 0), -2);
            DUE.is("11: digits as they were", x.count(6), 24);
            DUE.is("11: 1 of kind " + kind, x.sheet(kind, 1, 4, 9), 4);
            DUE.is("11: one digit", x.count(6), 1);
            DUE.is("11: always", x.thick(999), 4);
            DUE.is("11: 0 of kind " + kind, x.sheet(kind, 0, 9, 0), 0);
            DUE.is("11: no digits", x.count(6), 0);
            DUE.is("11: no FOG", x.thick(0), 0);
        }
    }

    /** NONE comes first; then -2 of kinds 0 .. 2; a missing one is no FOG. */
    private static void sheetMissing() {
        int[] n = {0, 1, 24, -1, MIN};
        for (int many : n) {
            FinedBySight x = DUE.fresh();
            DUE.fog("765");
            DUE.is("11: missing, " + many, x.sheet(3, many, 9, 0), -3);
            DUE.is("11: no FOG", x.count(6), 0);
            DUE.is("11: 0 always", x.thick(1), 0);
        }
        FinedBySight x = DUE.fresh();
        DUE.fog("765");
        int[][] wrong = {{3, 25}, {3, MAX}, {4, 0}, {4, 1}, {4, -1}, {4, 25}, {-1, 0}, {-1, -1}, {MAX, 1}, {MIN, 1}};
        for (int[] w : wrong) {
            DUE.is("11: kind " + w[0] + ", " + w[1], x.sheet(w[0], w[1], 9, 0), -1);
            DUE.is("11: as it was", x.count(6), 3);
        }
    }

    private static void ropeEnds() {
        FinedBySight x = DUE.fresh("....../....../....../....../....../......");
        DUE.is("12: a whole row", x.rope(0, 5), 1);
        DUE.is("12: a whole column", x.rope(35, 5), 2);
        DUE.is("12: the last row, from behind", x.rope(35, 30), 3);
        DUE.is("12: neighbours", x.rope(14, 15), 4);
        DUE.is("12: neighbours in a column", x.rope(20, 14), 5);
        DUE.is("12: YARDS 0 and 30", x.rope(30, 0), 6);
        x = DUE.fresh("..");
        DUE.is("12: the smallest town", x.rope(1, 0), 1);
        x = DUE.fresh("./.");
        DUE.is("12: the smallest column", x.rope(1, 0), 1);
    }

    private static void ropeNot() {
        FinedBySight x = DUE.fresh("....../.#...#/......");
        int[][] not = {{0, 0}, {17, 17}, {5, 6}, {6, 5}, {0, 13}, {6, 8}, {10, 6}, {1, 13}, {13, 1}, {0, 8}, {10, 12}};
        for (int[] r : not) {
            DUE.is("12: no ROPE " + r[0] + " to " + r[1], x.rope(r[0], r[1]), -2);
        }
        int[][] none = {{7, 8}, {8, 7}, {7, 7}, {6, 7}, {10, 11}, {-1, 0}, {0, -1}, {0, 18}, {18, 0}, {18, 18}, {-1, -1},
            {MIN, MAX}, {0, 36}};
        for (int[] r : none) {
            DUE.is("12: no YARDS " + r[0] + " to " + r[1], x.rope(r[0], r[1]), -1);
        }
        DUE.is("12: none is laid", x.count(4), 0);
        DUE.is("12: up to a WALL", x.rope(8, 10), 1);
        DUE.is("12: past it", x.rope(12, 0), 2);
    }

    private static void ropeFull() {
        FinedBySight x = DUE.fresh(".#.");
        DUE.is("12: a WALL between", x.rope(0, 2), -2);
        x = DUE.fresh("..#");
        for (int k = 1; k <= 6; k++) {
            DUE.is("12: the same one, " + k, x.rope(0, 1), k);
        }
        int[][] any = {{0, 1}, {0, 0}, {0, 2}, {2, 2}, {0, 3}, {-1, MAX}};
        for (int[] r : any) {
            DUE.is("12: 6 are there, " + r[0] + " to " + r[1], x.rope(r[0], r[1]), -3);
        }
        DUE.is("12: still 6", x.count(4), 6);
        x.unrope();
        DUE.is("12: 5 are there, like ones", x.rope(0, 0), -2);
        DUE.is("12: 5 are there, a WALL", x.rope(0, 2), -1);
        DUE.is("12: the sixth", x.rope(0, 1), 6);
    }

    private static void unropeLatest() {
        FinedBySight x = DUE.fresh("......");
        for (int k = 0; k < 5; k++) {
            x.rope(k, k + 1);
        }
        for (int left = 4; left >= 0; left--) {
            DUE.is("13: left", x.unrope(), left);
            DUE.is("13: count", x.count(4), left);
            DUE.is("13: those told first", x.reach(0, 0, 0, 24), left + 1);
        }
        DUE.is("13: none", x.unrope(), -1);
        DUE.is("13: none still", x.count(4), 0);
    }
}
