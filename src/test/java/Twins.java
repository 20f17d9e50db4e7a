import java.util.ArrayList;
import java.util.List;
import java.util.NoSuchElementException;

/**
 * Two objects made alike by one scene: the one is asked a call that must change nothing, and then both are looked at
 * in the same way, through all that the face lets be seen. Looking changes them, so that each look takes a new pair.
 */
final class Twins {
    /** Makes an object what a test needs. */
    interface Scene {
        void set(FinedBySight x);
    }

    /** A call; true counts 1, false 0. */
    interface Call {
        long ask(FinedBySight x);
    }

    private static final int MOST_CALLS = 512;

    private final Due due;

    Twins(Due due) {
        this.due = due;
    }

    /** The call gives this answer and changes nothing. */
    void unchanged(String what, Scene scene, Call call, long answer) {
        compare(what, scene, call, answer, false);
    }

    /** The call gives this answer and changes nothing but THE TEXT, which it empties. */
    void emptied(String what, Scene scene, Call call, long answer) {
        compare(what, scene, call, answer, true);
    }

    private void compare(String what, Scene scene, Call call, long answer, boolean reads) {
        List<Call> looks = looks();
        for (int k = 0; k < looks.size(); k++) {
            FinedBySight asked = made(scene);
            FinedBySight left = made(scene);
            long got = call.ask(asked);
            if (k == 0) {
                due.is(what, got, answer);
            }
            if (reads) {
                left.end(0);
            }
            due.is(what + ": look " + k + " at what should be as it was", looks.get(k).ask(asked),
                    looks.get(k).ask(left));
        }
    }

    private static FinedBySight made(Scene scene) {
        FinedBySight x = new FinedBySight();
        scene.set(x);
        return x;
    }

    private static List<Call> looks() {
        List<Call> looks = new ArrayList<>();
        looks.add(x -> new Look(x).plan());
        looks.add(x -> new Look(x).prices());
        looks.add(x -> new Look(x).affairs());
        looks.add(x -> x.again(0) ? new Look(x).affairs() : -1);
        looks.add(x -> x.again(1) ? new Look(x).affairs() : -1);
        looks.add(x -> new Look(x).text());
        return looks;
    }

    /** All that was seen, as one number. */
    private static final class Look {
        private final FinedBySight x;
        private final int size;
        private final int wide;
        private long seen = 17;
        private int calls = 2;

        Look(FinedBySight x) {
            this.x = x;
            size = x.count(0);
            wide = x.count(1);
        }

        private void see(long v) {
            seen = seen * 1000003 + v;
            calls++;
        }

        private long end() {
            if (calls > MOST_CALLS - 100) {
                throw new IllegalStateException("too many calls for one object");
            }
            return seen;
        }

        long plan() {
            for (int what = 0; what <= 8; what++) {
                see(x.count(what));
            }
            see(number(-1));
            int many = x.count(7);
            for (int i = 0; i <= many; i++) {
                see(number(i));
            }
            for (int y = 0; y <= size; y++) {
                see(x.yard(y));
            }
            return end();
        }

        private long number(int i) {
            try {
                return x.row(i);
            } catch (NoSuchElementException e) {
                return Long.MIN_VALUE;
            }
        }

        long prices() {
            for (int h = 0; h < 25; h++) {
                see(x.thick(h));
            }
            for (int y = 0; y < size; y++) {
                for (int s = -1; s <= 9; s += 5) {
                    see(x.owed(y, 0, s));
                    see(x.owed(y, 7, s));
                    see(x.owed(y, 998, s));
                }
            }
            return end();
        }

        long affairs() {
            for (int h = 0; h < 25; h++) {
                see(x.thick(h));
            }
            for (int i = 0; i < 4; i++) {
                see(x.bill(i));
                see(number(0));
                see(number(1));
                see(x.saw(i));
                see(number(0));
                for (int h = 0; h < 12; h++) {
                    see(x.at(i, h));
                }
                see(x.at(i, 30));
                see(x.at(i, 31));
            }
            see(x.err(0));
            ropes();
            return end();
        }

        /** In FOG 9 nothing is LIT, and no lamp of 9 helps: only ROPES let one go on. */
        private void ropes() {
            x.sheet(2, 1, 9, 0);
            for (int left = x.count(4); left >= 0; left--) {
                for (int y = 0; y < size; y++) {
                    if ((y + 1) % wide != 0) {
                        see(x.safe(y, y + 1, 0, 0));
                    }
                    see(x.safe(y, y + wide, 0, 0));
                }
                see(x.unrope());
            }
        }

        /** THE TEXT of a scene is digits: as FOG it tells all of them. */
        long text() {
            int length = x.count(8);
            see(length);
            see(x.end(length + 1) ? 1 : 0);
            see(x.end(Math.min(length, 24)) ? 1 : 0);
            see(x.fog());
            for (int h = 0; h < 25; h++) {
                see(x.thick(h));
            }
            return end();
        }
    }
}
