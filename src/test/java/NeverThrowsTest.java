import java.lang.reflect.InvocationTargetException;
import java.lang.reflect.Method;
import java.util.ArrayList;
import java.util.List;
import java.util.NoSuchElementException;
import java.util.Random;

/** Calls with any arguments in any state, drawn by fixed seeds: only row() may throw, and only what it says. */
public final class NeverThrowsTest {
    private static final int RUNS = 800;
    // An object is used for 512 calls: with a text told ahead of every fourth these are fewer.
    private static final int CALLS = 100;
    private static final String SIGNS = "./#123456789.....//urdlwysfhlc0+-*/<>=()";
    private static final String[] TOWNS = {".", "#", "......", "./././././.", "#.#/.#./#.#", "..3./.#../1..#",
        "....../....../..9.../...#../....../......", "....../#####./....../.#####/....../#####."};
    private static final int[] ODD = {-1, -2, 36, 999, 1000, 1001, 63, 64, 24, 25, 9999, 99999,
        Integer.MAX_VALUE, Integer.MAX_VALUE - 1, Integer.MIN_VALUE, Integer.MIN_VALUE + 1};

    public static void main(String[] args) throws IllegalAccessException {
        List<Method> face = new ArrayList<>();
        for (Method m : FinedBySight.class.getDeclaredMethods()) {
            if (java.lang.reflect.Modifier.isPublic(m.getModifiers())) {
                face.add(m);
            }
        }
        face.sort((a, b) -> a.getName().compareTo(b.getName()));
        int wrong = 0;
        for (int seed = 0; seed < RUNS; seed++) {
            wrong += run(new Random(seed), face);
        }
        System.out.println(wrong == 0 ? "nothing was thrown that should not be" : wrong + " calls threw");
        if (wrong != 0) {
            System.exit(1);
        }
    }

    private static int run(Random random, List<Method> face) throws IllegalAccessException {
        FinedBySight x = new FinedBySight();
        int wrong = 0;
        for (int k = 0; k < CALLS; k++) {
            if (random.nextInt(4) == 0) {
                tell(x, random);
            }
            Method m = face.get(random.nextInt(face.size()));
            Object[] arguments = new Object[m.getParameterCount()];
            for (int a = 0; a < arguments.length; a++) {
                arguments[a] = argument(random);
            }
            try {
                m.invoke(x, arguments);
            } catch (InvocationTargetException e) {
                boolean due = m.getName().equals("row") && e.getCause().getClass() == NoSuchElementException.class;
                if (!due) {
                    wrong++;
                    System.out.println(m.getName() + java.util.Arrays.toString(arguments) + " threw " + e.getCause());
                }
            }
        }
        return wrong;
    }

    private static int argument(Random random) {
        int kind = random.nextInt(40);
        if (kind < 2) {
            return kind == 0 ? random.nextInt() : ODD[random.nextInt(ODD.length)];
        }
        return random.nextInt(kind < 30 ? 4 : 36);
    }

    private static void tell(FinedBySight x, Random random) {
        boolean town = random.nextInt(3) == 0;
        String text = town ? TOWNS[random.nextInt(TOWNS.length)] : drawn(random);
        Due.tell(x, text);
        if (town) {
            x.town();
        }
    }

    private static String drawn(Random random) {
        int first = random.nextInt(SIGNS.length());
        int width = 1 + random.nextInt(SIGNS.length() - first);
        int many = random.nextInt(50);
        StringBuilder text = new StringBuilder();
        for (int k = 0; k < many; k++) {
            text.append(SIGNS.charAt(first + random.nextInt(width)));
        }
        return text.toString();
    }
}
