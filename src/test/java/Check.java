import java.util.ArrayList;
import java.util.List;
import java.util.function.IntToLongFunction;

/** Counts and prints the answers that are not due. Public, for what ReadmeTest compiles is of another loader. */
public final class Check {
    private static String context = "";
    private static int wrong = 0;
    private static int all = 0;

    private Check() {
    }

    /** What stands ahead of each answer that is not due, from now on. */
    static void about(String what) {
        context = what;
    }

    static int checked() {
        return all;
    }

    public static void due(String call, long got, long want) {
        all++;
        if (got != want) {
            wrong++;
            System.out.println(context + call + ": answered " + got + ", due is " + want);
        }
    }

    /** Both sides of both ends of a number: the least and the most are taken, those beside are refused. */
    static void bounds(String call, int low, int high, long refusal, IntToLongFunction asked) {
        for (int v : new int[] {Integer.MIN_VALUE, low - 1, high + 1, Integer.MAX_VALUE}) {
            due(call + " with " + v + " as *", asked.applyAsLong(v), refusal);
        }
        for (int v : new int[] {low, high}) {
            due(call + " refuses " + v + " as *", asked.applyAsLong(v) == refusal ? 1 : 0, 0);
        }
    }

    static void end(String test) {
        System.out.println(test + ": " + (wrong == 0 ? "as due" : wrong + " answers are not as due"));
        if (wrong != 0) {
            System.exit(1);
        }
    }

    /** A TEXT as the numbers of feed(), five at a time, filled up with blanks. */
    static List<int[]> words(String text) {
        List<int[]> calls = new ArrayList<>();
        for (int start = 0; start < text.length(); start += 20) {
            int[] five = new int[5];
            for (int i = 0; i < 20; i++) {
                int sign = start + i < text.length() ? text.charAt(start + i) : ' ';
                five[i / 4] = five[i / 4] << 8 | sign;
            }
            calls.add(five);
        }
        return calls;
    }

    /** Puts a TEXT on THE TAPE in place of what it had. */
    static void tape(DuskShelves x, String text) {
        x.end(0);
        for (int[] w : words(text)) {
            x.feed(w[0], w[1], w[2], w[3], w[4]);
        }
        x.end(text.length());
    }

    static int law(DuskShelves x, int use, int from, String text) {
        tape(x, text);
        return x.law(use, from);
    }
}
