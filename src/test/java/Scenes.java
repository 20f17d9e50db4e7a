/** Objects in states that the tests of refused calls start from; THE TEXT of each is digits. */
final class Scenes {
    static final String THIRTY = "rlrlrlrlrlrlrlrlrlrlrlrlrlrlrl";
    static final String FORTY = "1+y+c-0+1-1+1-1+1-1+1-1+1-1+1-1+1-1+1*10";
    static final String DIGITS = "012345678901234567890123";

    private Scenes() {
    }

    static int town(FinedBySight x, String text) {
        Due.tell(x, text);
        return x.town();
    }

    static int fog(FinedBySight x, String text) {
        Due.tell(x, text);
        return x.fog();
    }

    static int rule(FinedBySight x, String text) {
        Due.tell(x, text);
        return x.rule();
    }

    static int walk(FinedBySight x, String steps, int i, int y, int hour, int strength) {
        Due.tell(x, steps);
        return x.walk(i, y, hour, strength);
    }

    /** As it was made. */
    static void made(FinedBySight x) {
    }

    /** A new one in which THE TEXT alone is told. */
    static void told(FinedBySight x) {
        Due.tell(x, "12345678");
    }

    /** A town with LAMPS and a WALL (YARD 5), two ROPES, WALKS 0 and 2, both numbers kept; ERR is 3. */
    static void some(FinedBySight x) {
        town(x, "..3./.#../1...");
        fog(x, "0312");
        rule(x, "y+c");
        x.err(3);
        x.rope(0, 1);
        walk(x, "rrd", 0, 0, 0, 2);
        x.keep(1);
        fog(x, "42");
        x.err(5);
        x.rope(2, 3);
        walk(x, "l", 3, 10, 4, 9);
        x.keep(0);
        x.again(1);
        x.rope(8, 11);
        walk(x, "lu", 2, 10, 1, 5);
        x.cheapest(0, 3, 0, 2, 9);
        Due.tell(x, "1234567");
    }

    /** 6 ROPES, 4 WALKS, FOG of 24, THE RULE of 40, ERR 9, THE TEXT of 80, the ROW of 11; YARDS 6 .. 10 are WALLS. */
    static void full(FinedBySight x) {
        town(x, "....../#####./.....9");
        fog(x, DIGITS);
        rule(x, FORTY);
        x.err(9);
        int[] ends = {0, 5, 5, 17, 12, 17, 0, 1, 2, 4, 12, 14};
        for (int k = 0; k < ends.length; k += 2) {
            x.rope(ends[k], ends[k + 1]);
        }
        for (int i = 0; i < 4; i++) {
            walk(x, THIRTY, i, i, i, 9 - i);
        }
        x.keep(0);
        x.err(8);
        x.keep(1);
        x.again(0);
        x.cheapest(0, 12, 0, 2, 24);
        Due.tell(x, DIGITS + DIGITS + DIGITS + "98765432");
    }

    /** WALLS alone. */
    static void walls(FinedBySight x) {
        town(x, "##/##");
        fog(x, "12");
        x.hits();
        x.keep(0);
        Due.tell(x, "123");
    }
}
