import java.lang.reflect.InvocationTargetException;
import java.lang.reflect.Method;
import java.util.Arrays;

/**
 * Each number that a call of the face is told, at its limits: the last that is allowed and the first that is not, on
 * each side; what is not allowed is refused and changes nothing (but THE TEXT, if the call reads it). Each limit is
 * looked at with all other numbers allowed.
 */
public final class LimitsTest {
    private static final Due DUE = new Due();
    private static final Twins TWINS = new Twins(DUE);
    private static final int MIN = Integer.MIN_VALUE;
    private static final int MAX = Integer.MAX_VALUE;

    /*
     * Behind the promise's number and the call: what each number is, and one that is allowed.
     * y YARD that is no WALL, p any YARD, h HOUR, s STRENGTH, i WALK, t WALK that is told (0), u another one (2),
     * k number of what is kept, a-b from a to b, * any.
     */
    private static final String[] CALLS = {
        "7 yard p", "8 lamp y 0-9", "9 err 0-9", "10 thick h", "11 sheet 0-3 m24 * *", "14 lit h", "15 sees y h s",
        "16 owed y h s", "17 seen y h s", "18 dearest h s", "19 light h 1-9", "20 needs y z h", "21 walk i y h s",
        "22 drop t", "23 at t h", "24 bill t", "25 saw t", "26 dims t", "27 adopt i y z h s", "28 hidden y h 0-24",
        "29 hit t u", "30 brush t u", "32 takings h", "33 fee 0-99999", "34 way y z", "35 cheapest y z h s 0-24",
        "36 safe y z h s", "37 buys y z h 0-24 0-9999", "38 reach y h s 0-24", "39 tour y h s 0-4 0", "40 bears y z s",
        "41 waits y z h s", "42 chance y z h s 0-8", "43 likely t", "44 mean y z h s 0-6", "45 best y h s 0-24",
        "46 meet y z h s s", "47 lead y z h s 0-99", "48 keep 0-1", "49 again 0-1", "50 count 0-8"};

    public static void main(String[] args) {
        for (String line : CALLS) {
            String[] words = line.split(" ");
            Method call = named(words[1]);
            String[] kinds = Arrays.copyOfRange(words, 2, words.length);
            for (int k = 0; k < kinds.length; k++) {
                allowed(words[0], call, kinds, k);
                refused(words[0], call, kinds, k);
            }
        }
        yardsBySize();
        DUE.close("LimitsTest");
    }

    private static Method named(String name) {
        return Arrays.stream(FinedBySight.class.getMethods()).filter(m -> m.getName().equals(name)).findFirst().get();
    }

    private static void allowed(String promise, Method call, String[] kinds, int place) {
        for (int value : allowedOf(kinds[place])) {
            Object[] arguments = told(kinds, place, value);
            FinedBySight x = new FinedBySight();
            Scenes.some(x);
            if (call.getName().equals("walk")) {
                x.end(0);
            }
            long answer = ask(call, x, arguments);
            String what = promise + ": " + call.getName() + Arrays.toString(arguments) + " is allowed";
            DUE.is(what, answer != refusal(call), true);
        }
    }

    private static void refused(String promise, Method call, String[] kinds, int place) {
        for (int value : refusedOf(kinds[place])) {
            Object[] arguments = told(kinds, place, value);
            String what = promise + ": " + call.getName() + Arrays.toString(arguments) + " is refused";
            Twins.Call asked = x -> ask(call, x, arguments);
            if (call.getName().equals("walk")) {
                TWINS.emptied(what, Scenes::some, asked, refusal(call));
            } else {
                TWINS.unchanged(what, Scenes::some, asked, refusal(call));
            }
        }
    }

    private static Object[] told(String[] kinds, int place, int value) {
        Object[] arguments = new Object[kinds.length];
        for (int k = 0; k < kinds.length; k++) {
            arguments[k] = k == place ? value : usual(kinds[k]);
        }
        return arguments;
    }

    private static long refusal(Method call) {
        if (call.getReturnType() == boolean.class) {
            return 0;
        }
        return call.getName().equals("walk") ? -100 : FinedBySight.NONE;
    }

    private static long ask(Method call, FinedBySight x, Object[] arguments) {
        try {
            Object answer = call.invoke(x, arguments);
            return answer instanceof Boolean ? (Boolean) answer ? 1 : 0 : ((Number) answer).longValue();
        } catch (IllegalAccessException | InvocationTargetException e) {
            throw new IllegalStateException(e);
        }
    }

    private static int usual(String kind) {
        switch (kind) {
            case "y":
                return 4;
            case "z":
                return 7;
            case "u":
                return 2;
            case "m24":
                return 3;
            default:
                return kind.contains("-") ? Integer.parseInt(kind.split("-")[0]) : 0;
        }
    }

    /** In the scene: 12 YARDS, YARD 5 a WALL, WALKS 0 and 2. */
    private static int[] allowedOf(String kind) {
        switch (kind) {
            case "p":
                return new int[] {0, 5, 11};
            case "y":
            case "z":
                return new int[] {0, 11};
            case "h":
                return new int[] {0, 999};
            case "s":
                return new int[] {-1, 0, 9};
            case "i":
                return new int[] {0, 3};
            case "t":
            case "u":
                return new int[] {usual(kind)};
            case "m24":
                return new int[] {-1, 0, 24, MIN};
            case "*":
                return new int[] {MIN, -1, 0, MAX};
            case "0":
                return new int[] {0, MAX, MIN, -1};
            default:
                return new int[] {Integer.parseInt(kind.split("-")[0]), Integer.parseInt(kind.split("-")[1])};
        }
    }

    private static int[] refusedOf(String kind) {
        switch (kind) {
            case "p":
                return new int[] {-1, 12, 36, MIN, MAX};
            case "y":
            case "z":
                return new int[] {-1, 5, 12, 36, MIN, MAX};
            case "h":
                return new int[] {-1, 1000, MIN, MAX};
            case "s":
                return new int[] {-2, 10, MIN, MAX};
            case "i":
                return new int[] {-1, 4, MIN, MAX};
            case "t":
            case "u":
                return new int[] {-1, 1, 3, 4, MIN, MAX};
            case "m24":
                return new int[] {25, MAX};
            case "*":
            case "0":
                return new int[0];
            default:
                int low = Integer.parseInt(kind.split("-")[0]);
                int high = Integer.parseInt(kind.split("-")[1]);
                return new int[] {low - 1, high + 1, MIN, MAX};
        }
    }

    /** The last YARD goes with THE TOWN's size, from 1 to 36. */
    private static void yardsBySize() {
        String[] towns = {".", "..", "./.", "......", "./././././.", "....../....../....../....../....../......"};
        for (String town : towns) {
            FinedBySight x = DUE.fresh(town);
            int size = x.count(0);
            DUE.is("7: the last YARD of " + size, x.yard(size - 1), 0);
            DUE.is("7: no YARD behind it", x.yard(size), -1);
            DUE.is("15: from the last YARD", x.sees(size - 1, 0, 0), 0);
            DUE.is("15: from none behind it", x.sees(size, 0, 0), -1);
            DUE.is("34: to the last YARD", x.way(size - 1, size - 1), 0);
            DUE.is("34: to none behind it", x.way(0, size), -1);
        }
    }
}
