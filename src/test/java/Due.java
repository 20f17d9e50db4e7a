import java.util.NoSuchElementException;

/** What the tests share: telling texts, looking at answers and at the ROW. */
final class Due {
    private int wrong = 0;
    private FinedBySight x = new FinedBySight();

    FinedBySight fresh() {
        x = new FinedBySight();
        return x;
    }

    /** A new object with a TOWN. */
    FinedBySight fresh(String town) {
        fresh();
        tell(town);
        x.town();
        return x;
    }

    /** THE TEXT becomes this one. */
    void tell(String text) {
        tell(x, text);
    }

    static void tell(FinedBySight x, String text) {
        x.end(0);
        for (int p = 0; p < text.length(); p += 4) {
            int v = 0;
            for (int k = 0; k < 4; k++) {
                v = v << 8 | (p + k < text.length() ? text.charAt(p + k) : 0);
            }
            x.sign(v);
        }
        x.end(text.length());
    }

    int town(String text) {
        tell(text);
        return x.town();
    }

    int fog(String text) {
        tell(text);
        return x.fog();
    }

    int rule(String text) {
        tell(text);
        return x.rule();
    }

    int walk(String steps, int i, int y, int hour, int strength) {
        tell(steps);
        return x.walk(i, y, hour, strength);
    }

    void is(String what, long got, long due) {
        if (got != due) {
            wrong++;
            System.out.println(what + " is " + got + ", due is " + due);
        }
    }

    void is(String what, boolean got, boolean due) {
        is(what, got ? 1 : 0, due ? 1 : 0);
    }

    void row(String what, long... due) {
        is(what + ": numbers of the ROW", x.count(7), due.length);
        for (int i = 0; i < due.length; i++) {
            is(what + ": number " + i + " of the ROW", number(i), due[i]);
        }
        is(what + ": a number more", throwsAt(due.length), true);
    }

    boolean throwsAt(int i) {
        try {
            x.row(i);
            return false;
        } catch (NoSuchElementException e) {
            return true;
        }
    }

    private long number(int i) {
        return throwsAt(i) ? Long.MIN_VALUE : x.row(i);
    }

    /** The low number of a set of YARDS. */
    static long set(int... yards) {
        long bits = 0;
        for (int y : yards) {
            bits |= 1L << y;
        }
        return bits;
    }

    void close(String test) {
        System.out.println(test + ": " + (wrong == 0 ? "all answers are as due" : wrong + " answers are not as due"));
        if (wrong != 0) {
            System.exit(1);
        }
    }
}
