import java.lang.reflect.InvocationTargetException;
import java.lang.reflect.Method;
import java.util.ArrayList;
import java.util.Arrays;
import java.util.Collections;
import java.util.HashMap;
import java.util.List;
import java.util.Map;
import java.util.Random;

/** The same drawn calls on DuskShelves and on Model: every answer must be the same. */
public final class RandomRunsTest {
    private static final int RUNS = 600, CALLS = 512, COUNTS = 14, CALLS_OF_A_LAW = 11;

    /** Calls that tell something of one another only if they come often in one run. */
    private static final String[] FOCUSES = {
        "",
        "hours hours buy buy buy cut plan planned planned left foretold throwing batch",
        "hours hours buy buy buy order loss foretold weather throwing",
        "hours buy buy buy early waiting waiting drawn drawn drawn",
        "crates crates crates ways comes comes",
        "batch hours bin bin bin move isBad isBad since since ofBatch tossed",
        "batch hours kitchen gift gift gift warm cut shelf ofBatch",
        "batch move move ofBatch ofBatch shelf buy hours",
        "batch hours says says says inForce warm cut weather shelf"};

    private final Random random;
    private final List<String> kinds = new ArrayList<>();
    private final Map<String, Method> ours = methodsOf(DuskShelves.class);
    private final Map<String, Method> due = methodsOf(Model.class);
    private final int dayPace;
    private final int focus;
    private final boolean daily;

    private RandomRunsTest(long seed) {
        random = new Random(seed);
        dayPace = 1 + random.nextInt(30);
        focus = random.nextInt(FOCUSES.length);
        daily = random.nextInt(3) == 0;
        List<String> names = new ArrayList<>(ours.keySet());
        Collections.sort(names);
        for (String name : names) {
            int weight = 1 + random.nextInt(3);
            if (List.of("buy", "hours", "batch", "plan").contains(name)) weight += 3 + random.nextInt(20);
            for (int i = 0; i < weight; i++) kinds.add(name);
        }
        for (int i = 0; i < 40 && focus > 0; i++) kinds.addAll(List.of(FOCUSES[focus].split(" ")));
    }

    private static Map<String, Method> methodsOf(Class<?> of) {
        Map<String, Method> found = new HashMap<>();
        for (Method m : of.getDeclaredMethods()) {
            if (java.lang.reflect.Modifier.isPublic(m.getModifiers())) found.put(m.getName(), m);
        }
        return found;
    }

    private int upTo(int most) {
        return random.nextInt(most + 1);
    }

    /** Mostly a number as it should be, at times one beside. */
    private int about(int low, int high) {
        int draw = random.nextInt(60);
        if (draw == 0) return low - 1;
        if (draw == 1) return high + 1;
        if (draw == 2) return low;
        if (draw == 3) return high;
        return low + random.nextInt(high - low + 1);
    }

    private int day(Model model) {
        return random.nextInt(30) == 0 ? about(0, 1499) : upTo(model.day() + 1);
    }

    private int shop(Model m) {
        return about(0, Math.max(0, m.shops.size() - 1));
    }

    private int kind(Model m) {
        return about(0, Math.max(0, m.kinds.size() - 1));
    }

    private int batch(Model m) {
        return about(0, Math.max(0, m.batches.size() - 1));
    }

    private int place() {
        return random.nextInt(4) == 0 ? about(0, 9999) : upTo(30) * 100 + upTo(30);
    }

    private Object[] args(String name, Model m) {
        int[] v = switch (name) {
            case "shop" -> new int[] {place()};
            case "kind" -> new int[] {about(1, 200), about(0, 150), about(1, 9999), about(0, 1)};
            case "priceAt" -> new int[] {kind(m), about(0, 3)};
            case "throwing" -> new int[] {kind(m), about(0, random.nextBoolean() ? 100 : 9999)};
            case "weather" -> new int[] {day(m), about(0, 2)};
            case "hours" -> new int[] {pause(m)};
            case "cut" -> new int[] {shop(m), kind(m), about(0, 3)};
            case "step" -> new int[] {shop(m), kind(m)};
            case "warm" -> new int[] {shop(m), kind(m), about(0, 24)};
            case "batch" -> new int[] {shop(m), kind(m) * 100 + upTo(random.nextInt(9) == 0 ? 99 : 3),
                random.nextInt(3) == 0 ? about(0, 9) : 0, random.nextBoolean() ? 1 + upTo(20) : about(1, 999)};
            case "ofBatch" -> new int[] {batch(m), about(0, 12)};
            case "shelf" -> new int[] {shop(m), kind(m), about(0, 2)};
            case "feed" -> fed();
            case "end" -> new int[] {about(0, m.tape.length())};
            case "law" -> new int[] {about(0, 1), day(m)};
            case "inForce" -> new int[] {about(0, 1), day(m), day(m)};
            case "says" -> new int[] {about(0, Math.max(0, m.laws.size() - 1)), batch(m)};
            case "buy" -> new int[] {shop(m), kind(m), random.nextInt(9) == 0 ? about(0, 999) : upTo(30)};
            case "foretold" -> new int[] {shop(m), kind(m), told(m), day(m)};
            case "plan" -> new int[] {shop(m), kind(m)};
            case "planned" -> new int[] {about(6, 19)};
            case "order" -> new int[] {shop(m), kind(m), morning(m), day(m)};
            case "loss" -> new int[] {shop(m), kind(m), morning(m), day(m),
                random.nextBoolean() ? upTo(60) : about(0, 999)};
            case "crates" -> new int[] {shop(m), about(0, 1), random.nextBoolean() ? upTo(1) : about(0, 3)};
            case "comes" -> new int[] {about(0, 5)};
            case "move" -> new int[] {shop(m), shop(m), kind(m), random.nextBoolean() ? 1 + upTo(30) : about(1, 999)};
            case "drawn" -> new int[] {shop(m), about(-1, 1)};
            case "early" -> new int[] {shop(m), kind(m), upTo(random.nextInt(3)), day(m)};
            case "waiting" -> new int[] {kind(m), upTo(random.nextInt(3)), day(m), about(0, 1)};
            case "kitchen" -> new int[] {place(), about(0, 23)};
            case "gift" -> new int[] {shop(m), kind(m), about(0, Math.max(0, m.kitchens.size() - 1)),
                random.nextBoolean() ? 1 + upTo(9) : about(1, 999)};
            case "bin" -> new int[] {batch(m), random.nextInt(5) > 0 ? 1 + upTo(upTo(9)) : about(1, 999), about(0, 1)};
            case "tossed" -> new int[] {day(m)};
            case "isBad" -> new int[] {kind(m), random.nextInt(9) == 0 ? about(0, 99) : upTo(3), day(m)};
            case "since" -> new int[] {kind(m), random.nextInt(9) == 0 ? about(0, 99) : upTo(3)};
            case "till" -> new int[] {shop(m)};
            case "count" -> new int[] {about(0, 13)};
            default -> new int[0];
        };
        return Arrays.stream(v).boxed().toArray();
    }

    private int told(Model m) {
        if (m.rows.isEmpty() || random.nextInt(3) == 0) return about(6, 19) * 100 + about(0, 3) * 10 + about(0, 2);
        Model.Row row = m.rows.get(random.nextInt(m.rows.size()));
        return row.hour() * 100 + row.step() * 10 + about(0, 2);
    }

    private int morning(Model m) {
        if (m.rows.isEmpty() || random.nextInt(9) == 0) return about(0, 6) * 10 + about(0, 2);
        Model.Row row = m.rows.get(random.nextInt(m.rows.size()));
        return row.day() % 7 * 10 + row.weather();
    }

    /** Mostly within the hours in which SHOPS are open, at times weeks on. */
    private int pause(Model m) {
        int ofDay = m.hour % 24;
        if (random.nextInt(12) == 0) return about(1, 240);
        if (random.nextInt(12) == 0) return 168 - upTo(1);
        if (daily && random.nextInt(4) > 0) return ofDay == 6 ? 24 : (30 - ofDay) % 24;
        if (ofDay < 6 || ofDay > 18) return (30 - ofDay) % 24 + 24 * (upTo(9) / 9) + upTo(1);
        return random.nextBoolean() ? 1 : 1 + upTo(dayPace);
    }

    private int[] fed() {
        int[] v = new int[5];
        for (int i = 0; i < 5; i++) v[i] = random.nextInt();
        return v;
    }

    private String operand(int depth) {
        return switch (random.nextInt(depth > 0 ? 6 : 4)) {
            case 0 -> Integer.toString(upTo(random.nextBoolean() ? 3 : 9999));
            case 4 -> "!" + operand(depth - 1);
            case 5 -> "(" + expression(depth - 1) + ")";
            default -> "akcwhpns".substring(upTo(7)).substring(0, 1);
        };
    }

    private String expression(int depth) {
        StringBuilder text = new StringBuilder(operand(depth));
        boolean compared = false;
        for (int i = upTo(3); i > 0; i--) {
            char sign = "|&<=>+-*/".charAt(upTo(8));
            if ("<=>".indexOf(sign) >= 0 && compared) sign = '+';
            if ("<=>".indexOf(sign) >= 0) compared = true;
            if ("|&".indexOf(sign) >= 0) compared = false;
            text.append(sign).append(operand(depth));
        }
        return text.toString();
    }

    private String text() {
        StringBuilder text = new StringBuilder();
        for (int i = upTo(3); i >= 0; i--) {
            if (random.nextInt(3) > 0) text.append(expression(random.nextInt(4))).append(',');
            text.append(expression(random.nextInt(4))).append(i > 0 ? ";" : "");
        }
        for (int i = random.nextInt(8) - 5; i > 0; i--) {
            int at = upTo(text.length() - 1);
            text.setCharAt(at, "akcwhpns0123456789!(),;+-*/|&<=> \u00e9".charAt(upTo(33)));
        }
        return text.length() > 150 ? text.substring(0, 150) : text.toString();
    }

    private long call(Map<String, Method> on, Object target, String name, Object[] args) {
        try {
            return ((Number) on.get(name).invoke(target, args)).longValue();
        } catch (InvocationTargetException | IllegalAccessException e) {
            throw new IllegalStateException(name + Arrays.toString(args), e);
        }
    }

    private boolean both(DuskShelves x, Model model, List<String> log, String name, Object... args) {
        long got = call(ours, x, name, args);
        long want = call(due, model, name, args);
        log.add(name + Arrays.toString(args) + " = " + got);
        if (got != want) Check.due(String.join("\n", log), got, want);
        return got == want;
    }

    /** A TEXT is fed whole, so that there are LAWS at all. */
    private boolean makeLaw(DuskShelves x, Model model, List<String> log) {
        String text = text();
        boolean same = both(x, model, log, "end", 0);
        for (int[] five : Check.words(text)) {
            same = same && both(x, model, log, "feed", Arrays.stream(five).boxed().toArray());
        }
        same = same && both(x, model, log, "end", text.length());
        return same && both(x, model, log, "law", args("law", model));
    }

    private boolean run() {
        DuskShelves x = new DuskShelves();
        Model model = new Model();
        List<String> log = new ArrayList<>();
        boolean same = true;
        int shops = focus == 0 || random.nextBoolean() ? upTo(12) : 1 + upTo(2);
        int goods = focus == 0 ? upTo(3) : 1 + upTo(random.nextInt(2));
        for (int i = 0; i < shops && same; i++) same = both(x, model, log, "shop", args("shop", model));
        for (int i = 0; i < goods && same; i++) same = both(x, model, log, "kind", args("kind", model));
        int lawless = random.nextBoolean() ? 400 : 10 + upTo(60);
        while (same && log.size() <= CALLS - COUNTS - CALLS_OF_A_LAW) {
            if (random.nextInt(lawless) == 0) {
                same = makeLaw(x, model, log);
            } else {
                String name = kinds.get(random.nextInt(kinds.size()));
                same = both(x, model, log, name, args(name, model));
            }
        }
        for (int what = 0; what < COUNTS && same; what++) same = both(x, model, log, "count", what);
        return same;
    }

    public static void main(String[] args) {
        int runs = args.length > 0 ? Integer.parseInt(args[0]) : RUNS;
        long seed = args.length > 1 ? Long.parseLong(args[1]) : 1;
        for (int i = 0; i < runs; i++) {
            if (!new RandomRunsTest(seed + i).run()) break;
        }
        Check.end("RandomRunsTest");
    }
}
