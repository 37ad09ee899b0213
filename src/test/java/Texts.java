import java.util.ArrayDeque;
import java.util.Deque;
import java.util.Map;

/** TEXTS, read byte by byte for their FAULT, and valued by cutting them at their loosest sign. */
final class Texts {
    private Texts() {
    }

    /** The FAULT, or -1: what may come next is all that is kept from byte to byte. */
    static int fault(String text) {
        Deque<int[]> outer = new ArrayDeque<>();
        int open = 0;
        int nots = 0;
        boolean compared = false;
        boolean tested = false;
        boolean wants = true;
        int digits = 0;
        for (int i = 0; i < text.length(); i++) {
            char c = text.charAt(i);
            boolean digit = c >= '0' && c <= '9';
            if (digit && !wants && digits > 0 && digits < 4) {
                digits++;
                continue;
            }
            digits = 0;
            if (wants && (digit || "akcwhpns".indexOf(c) >= 0)) {
                digits = digit ? 1 : 0;
                wants = false;
                open -= nots;
                nots = 0;
            } else if (wants && (c == '!' || c == '(') && open < 9) {
                open++;
                if (c == '!') {
                    nots++;
                } else {
                    outer.push(new int[] {nots, compared ? 1 : 0});
                    nots = 0;
                    compared = false;
                }
            } else if (!wants && c == ')' && !outer.isEmpty()) {
                int[] was = outer.pop();
                open -= 1 + was[0];
                compared = was[1] == 1;
            } else if (!wants && "+-*/".indexOf(c) >= 0) {
                wants = true;
            } else if (!wants && (c == '|' || c == '&')) {
                wants = true;
                compared = false;
            } else if (!wants && "<=>".indexOf(c) >= 0 && !compared) {
                wants = true;
                compared = true;
            } else if (!wants && outer.isEmpty() && (c == ';' || c == ',' && !tested)) {
                wants = true;
                compared = false;
                tested = c == ',';
            } else {
                return i;
            }
        }
        return wants || !outer.isEmpty() ? text.length() : -1;
    }

    static int value(String text, Map<Character, Integer> names) {
        for (String clause : text.split(";")) {
            int comma = clause.indexOf(',');
            if (comma < 0) return of(clause, names);
            if (of(clause.substring(0, comma), names) != 0) return of(clause.substring(comma + 1), names);
        }
        return 0;
    }

    private static int of(String e, Map<Character, Integer> names) {
        for (String loosest : new String[] {"|", "&", "<=>", "+-", "*/"}) {
            int at = lastOutside(e, loosest);
            if (at >= 0) return join(of(e.substring(0, at), names), e.charAt(at), of(e.substring(at + 1), names));
        }
        char c = e.charAt(0);
        if (c == '!') return of(e.substring(1), names) == 0 ? 1 : 0;
        if (c == '(') return of(e.substring(1, e.length() - 1), names);
        return names.containsKey(c) ? names.get(c) : Integer.parseInt(e);
    }

    private static int lastOutside(String e, String signs) {
        int depth = 0;
        for (int i = e.length() - 1; i >= 0; i--) {
            char c = e.charAt(i);
            if (c == ')') depth++;
            if (c == '(') depth--;
            if (depth == 0 && signs.indexOf(c) >= 0) return i;
        }
        return -1;
    }

    private static int join(int a, char sign, int b) {
        return switch (sign) {
            case '|' -> (a != 0) | (b != 0) ? 1 : 0;
            case '&' -> (a != 0) & (b != 0) ? 1 : 0;
            case '<' -> a < b ? 1 : 0;
            case '=' -> a == b ? 1 : 0;
            case '>' -> a > b ? 1 : 0;
            case '+' -> a + b;
            case '-' -> a - b;
            case '*' -> a * b;
            default -> b == 0 ? 0 : a / b;
        };
    }
}
