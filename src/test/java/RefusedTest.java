/**
 * Calls that answer NONE, false, -2, -3 or where a text goes wrong: the answer, and that all is as it was behind it
 * (but for THE TEXT, which a call that reads it empties). What is wrong by a single number stands in LimitsTest.
 */
public final class RefusedTest {
    private static final Due DUE = new Due();
    private static final Twins TWINS = new Twins(DUE);

    private static final String[] TOWNS = {"", "x", "/", "0", ".......", "./", "../.", "../...", ".././..", "..//..",
        "././././././", "././././././.", "..\0."};
    private static final int[] TOWN_FAULTS = {0, 0, 0, 0, 6, 2, 4, 5, 4, 3, 12, 12, 2};
    private static final String[] RULES = {"+", "y+", "yy", "1000", "y<s<f", "(y", "()", "y)", "(((((y", "-"};
    private static final int[] RULE_FAULTS = {0, 2, 1, 3, 3, 2, 1, 1, 4, 1};

    public static void main(String[] args) {
        Twins.Scene[] scenes = {Scenes::made, Scenes::told, Scenes::some, Scenes::full, Scenes::walls};
        for (Twins.Scene scene : scenes) {
            signs(scene);
            texts(scene);
            numbers(scene);
        }
        fullText();
        walks();
        ropes();
        sights();
        ofWalks();
        ofWays();
        ofRopes();
        kept();
        askingChangesTheRowAlone();
        DUE.close("RefusedTest");
    }

    private static void signs(Twins.Scene scene) {
        TWINS.unchanged("3: end(-1)", scene, x -> x.end(-1) ? 1 : 0, 0);
        TWINS.unchanged("3: one sign more", scene, x -> x.end(x.count(8) + 1) ? 1 : 0, 0);
        TWINS.unchanged("3: all signs", scene, x -> x.end(x.count(8)) ? 1 : 0, 1);
        TWINS.unchanged("3: the greatest", scene, x -> x.end(Integer.MAX_VALUE) ? 1 : 0, 0);
        TWINS.unchanged("3: the least", scene, x -> x.end(Integer.MIN_VALUE) ? 1 : 0, 0);
    }

    private static void texts(Twins.Scene scene) {
        for (int k = 0; k < TOWNS.length; k++) {
            String text = TOWNS[k];
            TWINS.emptied("4: " + text, scene, x -> Scenes.town(x, text), -1 - TOWN_FAULTS[k]);
        }
        TWINS.emptied("5: no digit", scene, x -> Scenes.fog(x, "x"), -1);
        TWINS.emptied("5: no digit behind one", scene, x -> Scenes.fog(x, "5 "), -2);
        TWINS.emptied("5: 25", scene, x -> Scenes.fog(x, Scenes.DIGITS + "0"), -25);
        for (int k = 0; k < RULES.length; k++) {
            String text = RULES[k];
            TWINS.emptied("6: " + text, scene, x -> Scenes.rule(x, text), -1 - RULE_FAULTS[k]);
        }
        TWINS.emptied("6: 41", scene, x -> Scenes.rule(x, Scenes.FORTY + "0"), -41);
    }

    private static void numbers(Twins.Scene scene) {
        TWINS.unchanged("11: n below 0", scene, x -> x.sheet(0, -1, 5, 1), -2);
        TWINS.unchanged("11: n below 0, shorts", scene, x -> x.sheet(1, -1, 5, 1), -2);
        TWINS.unchanged("11: n far below 0, ints", scene, x -> x.sheet(2, Integer.MIN_VALUE, 5, 1), -2);
        TWINS.unchanged("11: 25", scene, x -> x.sheet(2, 25, 5, 1), -1);
        TWINS.unchanged("11: missing, 25", scene, x -> x.sheet(3, 25, 5, 1), -1);
        TWINS.unchanged("11: another kind, n below 0", scene, x -> x.sheet(4, -1, 5, 1), -1);
        TWINS.unchanged("11: another kind below, n below 0", scene, x -> x.sheet(-1, -1, 5, 1), -1);
        TWINS.unchanged("20: like ones", scene, x -> x.needs(0, 0, 0), -1);
        TWINS.unchanged("29: like ones", scene, x -> x.hit(0, 0), -1);
        TWINS.unchanged("30: like ones", scene, x -> x.brush(0, 0), -1);
        TWINS.unchanged("51: row(-1)", scene, x -> throwsAt(x, -1), 1);
        TWINS.unchanged("51: one number more", scene, x -> throwsAt(x, x.count(7)), 1);
        TWINS.unchanged("51: the greatest", scene, x -> throwsAt(x, Integer.MAX_VALUE), 1);
        TWINS.unchanged("51: the least", scene, x -> throwsAt(x, Integer.MIN_VALUE), 1);
    }

    private static long throwsAt(FinedBySight x, int i) {
        try {
            x.row(i);
            return 0;
        } catch (java.util.NoSuchElementException e) {
            return 1;
        }
    }

    private static void fullText() {
        TWINS.unchanged("2: 84", Scenes::full, x -> x.sign('1' << 24), -1);
        for (int n = 77; n < 80; n++) {
            int length = n;
            Twins.Scene scene = x -> {
                Scenes.full(x);
                x.end(length);
            };
            TWINS.unchanged("2: behind " + n, scene, x -> x.sign('1' << 24 | '2' << 16), -1);
        }
        TWINS.unchanged("3: 81", Scenes::full, x -> x.end(81) ? 1 : 0, 0);
        TWINS.unchanged("3: 80", Scenes::full, x -> x.end(80) ? 1 : 0, 1);
    }

    private static void walks() {
        Twins.Scene scene = Scenes::some;
        TWINS.emptied("21: wrong at 0", scene, x -> Scenes.walk(x, "x", 0, 0, 0, 0), -1);
        TWINS.emptied("21: wrong at 1", scene, x -> Scenes.walk(x, "ux", 1, 0, 0, 0), -2);
        TWINS.emptied("21: wrong at 29", scene, x -> Scenes.walk(x, Scenes.THIRTY.substring(1) + "R", 3, 0, 0, 0), -30);
        TWINS.emptied("21: 31", scene, x -> Scenes.walk(x, Scenes.THIRTY + "r", 2, 0, 0, 0), -31);
        TWINS.emptied("21: 80", scene, x -> Scenes.walk(x, (Scenes.THIRTY + Scenes.THIRTY + Scenes.THIRTY)
                .substring(0, 80), 2, 0, 0, 0), -31);
        TWINS.emptied("21: no such WALK is asked first", scene, x -> Scenes.walk(x, "x", 4, 0, 0, 0), -100);
        TWINS.emptied("21: a WALL is asked first", scene, x -> Scenes.walk(x, "x", 0, 5, 0, 0), -100);
        TWINS.emptied("21: HOUR is asked first", scene, x -> Scenes.walk(x, Scenes.THIRTY + "r", 0, 0, 1000, 0), -100);
        TWINS.emptied("21: STRENGTH is asked first", scene, x -> Scenes.walk(x, "x", 0, 0, 0, 10), -100);
        TWINS.emptied("21: a STEP that could be, no WALK", scene, x -> Scenes.walk(x, "r", -1, 0, 0, 0), -100);
        TWINS.emptied("21: WALLS alone", Scenes::walls, x -> Scenes.walk(x, "", 0, 0, 0, 0), -100);
        TWINS.unchanged("22: none told", scene, x -> x.drop(1) ? 1 : 0, 0);
        TWINS.unchanged("22: none told at first", Scenes::made, x -> x.drop(0) ? 1 : 0, 0);
    }

    private static void ropes() {
        Twins.Scene some = Scenes::some;
        TWINS.unchanged("12: like ones", some, x -> x.rope(0, 0), -2);
        TWINS.unchanged("12: neither row nor column", some, x -> x.rope(0, 6), -2);
        TWINS.unchanged("12: behind the edge", some, x -> x.rope(3, 4), -2);
        TWINS.unchanged("12: a WALL between, row", some, x -> x.rope(4, 6), -2);
        TWINS.unchanged("12: a WALL between, column", some, x -> x.rope(9, 1), -2);
        TWINS.unchanged("12: a WALL", some, x -> x.rope(5, 6), -1);
        TWINS.unchanged("12: to a WALL", some, x -> x.rope(4, 5), -1);
        TWINS.unchanged("12: a WALL twice", some, x -> x.rope(5, 5), -1);
        TWINS.unchanged("12: none such", some, x -> x.rope(12, 12), -1);
        TWINS.unchanged("12: none such below", some, x -> x.rope(0, -4), -1);
        TWINS.unchanged("12: 6 are there", Scenes::full, x -> x.rope(0, 1), -3);
        TWINS.unchanged("12: 6 are there, like ones", Scenes::full, x -> x.rope(0, 0), -3);
        TWINS.unchanged("12: 6 are there, a WALL", Scenes::full, x -> x.rope(6, 0), -3);
        TWINS.unchanged("12: 6 are there, none such", Scenes::full, x -> x.rope(-1, 18), -3);
        TWINS.unchanged("13: none", Scenes::made, FinedBySight::unrope, -1);
        TWINS.unchanged("13: none in WALLS", Scenes::walls, FinedBySight::unrope, -1);
    }

    private static void sights() {
        TWINS.unchanged("8: a WALL", Scenes::some, x -> x.lamp(5, 1), -1);
        TWINS.unchanged("8: what it is", Scenes::some, x -> x.lamp(2, 3), 3);
        TWINS.unchanged("9: what it is", Scenes::some, x -> x.err(3), 3);
        TWINS.unchanged("18: WALLS alone", Scenes::walls, x -> x.dearest(0, 9), -2);
        TWINS.unchanged("18: WALLS alone, another HOUR", Scenes::walls, x -> x.dearest(1000, 9), -1);
        TWINS.unchanged("18: WALLS alone, another STRENGTH", Scenes::walls, x -> x.dearest(0, 10), -1);
        TWINS.unchanged("19: WALLS alone", Scenes::walls, x -> x.light(0, 9), -2);
        TWINS.unchanged("19: WALLS alone, v 0", Scenes::walls, x -> x.light(0, 0), -1);
        Twins.Scene lamps = x -> Scenes.town(x, "1#/#9");
        TWINS.unchanged("19: LAMPS and WALLS", lamps, x -> x.light(0, 5), -2);
        TWINS.unchanged("20: round a corner", Scenes::some, x -> x.needs(0, 7, 0), -2);
        TWINS.unchanged("20: how little", Scenes::some, x -> x.needs(0, 1, 1), 4);
        TWINS.unchanged("20: a WALL twice", Scenes::some, x -> x.needs(5, 5, 0), -1);
    }

    private static void ofWalks() {
        Twins.Scene some = Scenes::some;
        Twins.Scene dark = x -> {
            Scenes.some(x);
            x.sheet(2, 1, 9, 0);
            x.unrope();
            x.unrope();
        };
        TWINS.unchanged("23: ahead of it", some, x -> x.at(2, 0), -2);
        TWINS.unchanged("23: behind it", some, x -> x.at(2, 4), -2);
        TWINS.unchanged("26: with none", dark, x -> x.dims(0), -2);
        TWINS.unchanged("27: none", dark, x -> x.adopt(0, 0, 3, 0, 9), -2);
        TWINS.unchanged("27: none, a WALK that is not told", dark, x -> x.adopt(1, 0, 3, 0, 9), -2);
        TWINS.unchanged("29: none", some, x -> x.hit(0, 2), -2);
        TWINS.unchanged("30: none", some, x -> x.brush(2, 0), -2);
        TWINS.unchanged("33: none", Scenes::told, x -> x.fee(1), -2);
        TWINS.unchanged("28: HOURS", some, x -> x.hidden(3, 998, 2), 3);
        TWINS.unchanged("43: 30 STEPS", Scenes::full, x -> x.likely(0), -2);
    }

    private static void ofWays() {
        Twins.Scene dark = x -> {
            Scenes.full(x);
            x.sheet(2, 1, 9, 0);
            for (int k = 0; k < 6; k++) {
                x.unrope();
            }
        };
        Twins.Scene parted = x -> {
            Scenes.some(x);
            Scenes.town(x, ".#.");
            x.dearest(0, 1);
            Due.tell(x, "55");
        };
        TWINS.unchanged("34: no way", parted, x -> x.way(0, 2), -2);
        TWINS.unchanged("35: no way", parted, x -> x.cheapest(0, 2, 0, 9, 24), -2);
        TWINS.unchanged("35: too few HOURS", Scenes::full, x -> x.cheapest(0, 12, 0, 9, 11), -2);
        TWINS.unchanged("36: in the dark", dark, x -> x.safe(0, 1, 0, 9), -2);
        TWINS.unchanged("37: in the dark", dark, x -> x.buys(0, 1, 0, 24, 9999), -2);
        TWINS.unchanged("39: in the dark", dark, x -> x.tour(0, 0, 9, 1, 1), -2);
        TWINS.unchanged("40: no way", parted, x -> x.bears(0, 2, 9), -2);
        TWINS.unchanged("41: in the dark", dark, x -> x.waits(0, 1, 0, 9), -2);
        TWINS.unchanged("39: a WALL", parted, x -> x.tour(0, 0, 9, 1, 1), -1);
        TWINS.unchanged("39: none such", parted, x -> x.tour(0, 0, 9, 1, 3), -1);
    }

    private static void ofRopes() {
        TWINS.unchanged("45: 6 are there", Scenes::full, x -> x.best(0, 0, 0, 24), -2);
        TWINS.unchanged("45: 6 are there, a WALL", Scenes::full, x -> x.best(6, 0, 0, 24), -1);
        TWINS.unchanged("45: one YARD", Scenes::told, x -> x.best(0, 0, 0, 24), -2);
        Twins.Scene parted = x -> {
            Scenes.town(x, ".#/#.");
            x.hits();
        };
        TWINS.unchanged("45: none can be laid", parted, x -> x.best(3, 0, 0, 24), -2);
        TWINS.unchanged("46: no way", parted, x -> x.meet(0, 3, 0, 9, 9), -2);
        TWINS.unchanged("46: the other STRENGTH below", parted, x -> x.meet(0, 0, 0, 9, -2), -1);
        TWINS.unchanged("46: the other STRENGTH above", parted, x -> x.meet(0, 0, 0, 9, 10), -1);
        TWINS.unchanged("47: no way", parted, x -> x.lead(0, 3, 0, 9, 0), -2);
    }

    private static void kept() {
        TWINS.unchanged("48: 2", Scenes::full, x -> x.keep(2) ? 1 : 0, 0);
        TWINS.unchanged("48: -1", Scenes::full, x -> x.keep(-1) ? 1 : 0, 0);
        TWINS.unchanged("49: nothing kept", Scenes::told, x -> x.again(0) ? 1 : 0, 0);
        TWINS.unchanged("49: nothing kept under the other number", Scenes::walls, x -> x.again(1) ? 1 : 0, 0);
        Twins.Scene anew = x -> {
            Scenes.some(x);
            Scenes.town(x, "..../....");
            x.rope(0, 3);
            Scenes.walk(x, "rr", 1, 0, 0, 3);
            Due.tell(x, "77");
        };
        TWINS.unchanged("49: told anew since", anew, x -> x.again(0) ? 1 : 0, 0);
        TWINS.unchanged("49: told anew since, the other number", anew, x -> x.again(1) ? 1 : 0, 0);
        TWINS.unchanged("50: 9", Scenes::full, x -> x.count(9), -1);
    }

    /** What only asks leaves all but the ROW; the ROW is then made alike by hits(). */
    private static void askingChangesTheRowAlone() {
        Twins.Call[] calls = {x -> x.lit(0), x -> x.sees(0, 0, 9), x -> x.seen(0, 0, 9), x -> x.dearest(0, 9),
            x -> x.light(0, 9), x -> x.bill(0), x -> x.saw(0), x -> x.dims(0), x -> x.takings(1), x -> x.way(0, 11),
            x -> x.cheapest(0, 11, 0, 2, 24), x -> x.safe(0, 3, 0, 9), x -> x.buys(0, 1, 0, 24, 9999),
            x -> x.reach(0, 0, 9, 24), x -> x.tour(0, 0, 9, 2, 1 | 2 << 6), x -> x.bears(0, 3, 9),
            x -> x.waits(0, 3, 0, 9), x -> x.chance(0, 3, 0, 2, 8), x -> x.likely(0), x -> x.mean(0, 3, 0, 2, 6),
            x -> x.best(0, 0, 0, 24), x -> x.meet(0, 3, 0, 9, 9), x -> x.lead(0, 3, 0, 9, 99)};
        for (int k = 0; k < calls.length; k++) {
            Twins.Call call = calls[k];
            Twins.Scene scene = x -> {
                Scenes.some(x);
                x.hits();
            };
            TWINS.unchanged("asking " + k, scene, x -> call.ask(x) >= 0 ? x.hits() : -9, 0);
        }
    }
}
