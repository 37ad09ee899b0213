/** Promises 1 to 10. */
public final class ShopsKindsTimeTest {
    private static final int BAD = DuskShelves.BAD, NOT = DuskShelves.NOT, FULL = DuskShelves.FULL;

    private ShopsKindsTimeTest() {
    }

    private static void newObject() {
        DuskShelves x = new DuskShelves();
        for (int what = 0; what < 14; what++) {
            Check.due("1: count(" + what + ")", x.count(what), 0);
        }
        Check.due("1: inForce", x.inForce(0, 0, 0), NOT);
        Check.due("1: left", x.left(), BAD);
        Check.due("1: planned", x.planned(6), BAD);
        Check.due("1: comes", x.comes(0), BAD);
    }

    private static void shop() {
        DuskShelves x = new DuskShelves();
        Check.due("2: shop(-1)", x.shop(-1), BAD);
        Check.due("2: shop(10000)", x.shop(10000), BAD);
        for (int i = 0; i < 12; i++) {
            Check.due("2: shop", x.shop(i == 0 ? 9999 : i == 1 ? 0 : 7), i);
        }
        Check.due("2: a thirteenth shop", x.shop(0), FULL);
        Check.due("2: a thirteenth, nowhere", x.shop(-1), BAD);
        Check.due("2: count(0)", x.count(0), 12);
    }

    private static void kind() {
        DuskShelves x = new DuskShelves();
        int[][] bad = {{0, 0, 1, 0}, {10000, 0, 1, 0}, {1, -1, 1, 0}, {1, 10000, 1, 0}, {1, 0, 0, 0},
            {1, 0, 10000, 0}, {1, 0, 1, 2}, {1, 0, 1, -1}};
        for (int[] b : bad) {
            Check.due("3: kind", x.kind(b[0], b[1], b[2], b[3]), BAD);
        }
        Check.due("3: least", x.kind(1, 0, 1, 0), 0);
        Check.due("3: most", x.kind(9999, 9999, 9999, 1), 1);
        for (int i = 2; i < 10; i++) {
            Check.due("3: kind", x.kind(5, 4, 3, 1), i);
        }
        Check.due("3: an eleventh", x.kind(5, 4, 3, 1), FULL);
        Check.due("3: an eleventh, bad", x.kind(5, 4, 0, 1), BAD);
        Check.due("3: count(1)", x.count(1), 10);
    }

    private static void priceAt() {
        DuskShelves x = new DuskShelves();
        Check.due("4: no kind", x.priceAt(0, 0), BAD);
        x.kind(9999, 0, 1, 0);
        x.kind(3, 0, 1, 0);
        int[] due = {9999, 7499, 4999, 2499, 3, 2, 1, 0};
        for (int i = 0; i < 8; i++) {
            Check.due("4: priceAt", x.priceAt(i / 4, i % 4), due[i]);
        }
        Check.due("4: step 4", x.priceAt(0, 4), BAD);
        Check.due("4: step -1", x.priceAt(0, -1), BAD);
        Check.due("4: kind -1", x.priceAt(-1, 0), BAD);
        Check.due("4: kind 2", x.priceAt(2, 0), BAD);
    }

    private static void throwing() {
        DuskShelves x = new DuskShelves();
        Check.due("5: no kind", x.throwing(0, 1), BAD);
        x.kind(1, 1, 1, 0);
        x.kind(1, 1, 1, 0);
        Check.due("5: at first", x.throwing(0, 9999), 0);
        Check.due("5: then", x.throwing(0, 5), 9999);
        Check.due("5: above", x.throwing(0, 10000), BAD);
        Check.due("5: below", x.throwing(0, -1), BAD);
        Check.due("5: kept", x.throwing(0, 0), 5);
        Check.due("5: the other", x.throwing(1, 0), 0);
        Check.due("5: kind 2", x.throwing(2, 0), BAD);
    }

    private static void weather() {
        DuskShelves x = new DuskShelves();
        Check.due("6: at first", x.weather(1499, 2), 0);
        Check.due("6: then", x.weather(1499, 1), 2);
        Check.due("6: 3", x.weather(1499, 3), BAD);
        Check.due("6: -1", x.weather(1499, -1), BAD);
        Check.due("6: kept", x.weather(1499, 0), 1);
        Check.due("6: day 1500", x.weather(1500, 0), BAD);
        Check.due("6: day -1", x.weather(-1, 0), BAD);
        Check.due("6: day 0", x.weather(0, 0), 0);
    }

    private static void hours() {
        DuskShelves x = new DuskShelves();
        Check.due("7: 0", x.hours(0), BAD);
        Check.due("7: 241", x.hours(241), BAD);
        Check.due("7: -1", x.hours(-1), BAD);
        Check.due("7: least", x.hours(Integer.MIN_VALUE), BAD);
        for (int i = 1; i < 150; i++) {
            Check.due("7: hours(240)", x.hours(240), 240 * i);
        }
        Check.due("7: beyond", x.hours(240), BAD);
        Check.due("7: up to the last", x.hours(239), 35999);
        Check.due("7: one more", x.hours(1), BAD);
        Check.due("7: count(5)", x.count(5), 35999);
    }

    private static void stepsAndWarmth() {
        DuskShelves x = new DuskShelves();
        Check.due("8: no shop", x.cut(0, 0, 1), BAD);
        x.shop(0);
        x.shop(0);
        Check.due("8: no kind", x.cut(0, 0, 1), BAD);
        Check.due("9: no kind", x.step(0, 0), BAD);
        Check.due("10: no kind", x.warm(0, 0, 1), BAD);
        x.kind(1, 1, 1, 0);
        x.kind(1, 1, 1, 0);
        Check.due("8: not greater", x.cut(0, 0, 0), NOT);
        Check.due("8: 4", x.cut(0, 0, 4), BAD);
        Check.due("8: -1", x.cut(0, 0, -1), BAD);
        Check.due("8: up", x.cut(0, 0, 2), 0);
        Check.due("8: the same", x.cut(0, 0, 2), NOT);
        Check.due("8: lesser", x.cut(0, 0, 1), NOT);
        Check.due("8: up again", x.cut(0, 0, 3), 2);
        Check.due("9: step", x.step(0, 0), 3);
        Check.due("9: other kind", x.step(0, 1), 0);
        Check.due("9: other shop", x.step(1, 0), 0);
        Check.due("9: shop 2", x.step(2, 0), BAD);
        Check.due("9: kind -1", x.step(0, -1), BAD);
        Check.due("10: at first", x.warm(0, 0, 24), 0);
        Check.due("10: 25", x.warm(0, 0, 25), BAD);
        Check.due("10: -1", x.warm(0, 0, -1), BAD);
        Check.due("10: then", x.warm(0, 0, 3), 24);
        Check.due("10: other shop", x.warm(1, 0, 0), 0);
        x.hours(23);
        Check.due("9: the last hour", x.step(0, 0), 3);
        Check.due("10: the last hour", x.warm(0, 0, 4), 3);
        x.hours(1);
        Check.due("9: a day begins", x.step(0, 0), 0);
        Check.due("10: a day begins", x.warm(0, 0, 0), 0);
        Check.due("8: anew", x.cut(0, 0, 1), 0);
    }

    public static void main(String[] args) {
        newObject();
        shop();
        kind();
        priceAt();
        throwing();
        weather();
        hours();
        stepsAndWarmth();
        Check.end("ShopsKindsTimeTest");
    }
}
