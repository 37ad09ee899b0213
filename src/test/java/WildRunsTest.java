import java.lang.reflect.InvocationTargetException;
import java.lang.reflect.Method;
import java.lang.reflect.Modifier;
import java.util.ArrayList;
import java.util.Comparator;
import java.util.List;
import java.util.Random;

/** Whatever is called with whatever, more often than the document promises: each call answers. */
public final class WildRunsTest {
    private static final int RUNS = 60, CALLS = 3000;
    private static final int[] EDGES = {Integer.MIN_VALUE, Integer.MAX_VALUE, -1, 0, 1, 2, 3, 6, 9, 10, 11, 12,
        13, 19, 20, 23, 24, 69, 99, 100, 199, 200, 239, 240, 399, 400, 599, 600, 999, 1000, 1499, 1500, 9999,
        10000, 35999, 36000, -2000000000, 0x28282828, 0x21212121, 0x61613b31};

    private WildRunsTest() {
    }

    private static int wild(Random random) {
        return switch (random.nextInt(4)) {
            case 0 -> EDGES[random.nextInt(EDGES.length)];
            case 1 -> random.nextInt();
            case 2 -> random.nextInt(1000);
            default -> random.nextInt(4);
        };
    }

    private static void call(DuskShelves x, Method m, Random random) throws IllegalAccessException {
        Object[] args = new Object[m.getParameterCount()];
        for (int i = 0; i < args.length; i++) {
            args[i] = wild(random);
        }
        try {
            m.invoke(x, args);
        } catch (InvocationTargetException e) {
            e.getCause().printStackTrace(System.out);
            Check.due(m.getName() + java.util.Arrays.toString(args) + " threw", 1, 0);
        }
    }

    public static void main(String[] args) throws IllegalAccessException {
        List<Method> face = new ArrayList<>();
        for (Method m : DuskShelves.class.getDeclaredMethods()) {
            if (Modifier.isPublic(m.getModifiers())) {
                face.add(m);
            }
        }
        face.sort(Comparator.comparing(Method::getName));
        for (int run = 0; run < RUNS; run++) {
            Random random = new Random(run);
            DuskShelves x = new DuskShelves();
            for (int i = 0; i < CALLS; i++) {
                call(x, face.get(random.nextInt(face.size())), random);
            }
        }
        Check.end("WildRunsTest");
    }
}
