/** Small worlds in which the tests of single sentences begin. */
final class Worlds {
    private Worlds() {
    }

    /** So many SHOPS at PLACE 0, and KIND 0: PRICE 100, COST 40, 10 GRAMS, not COLD. */
    static DuskShelves shops(int n) {
        DuskShelves x = new DuskShelves();
        for (int i = 0; i < n; i++) {
            x.shop(0);
        }
        x.kind(100, 40, 10, 0);
        return x;
    }

    static DuskShelves shops(int n, int day, int hour) {
        DuskShelves x = shops(n);
        until(x, day, hour);
        return x;
    }

    static void until(DuskShelves x, int day, int hour) {
        int more = day * 24 + hour - x.count(5);
        while (more > 0) {
            int some = Math.min(240, more);
            x.hours(some);
            more -= some;
        }
    }

    /** Waits for an HOUR and asks there for some of KIND 0. */
    static int ask(DuskShelves x, int shop, int day, int hour, int n) {
        until(x, day, hour);
        return x.buy(shop, 0, n);
    }

    /** Asks for as much with WEATHER as told, and leaves it so. */
    static int ask(DuskShelves x, int shop, int day, int hour, int n, int weather) {
        x.weather(day, weather);
        return ask(x, shop, day, hour, n);
    }

    /** What a TEXT gives of a BATCH in SHOP 0 of KIND 0, made today, on DAY 0 at 0. */
    static int value(String text) {
        DuskShelves x = shops(1);
        x.batch(0, 0, 0, 1);
        Check.due("LAW " + text, Check.law(x, 0, 0, text), 0);
        return x.says(0, 0);
    }

    static void value(String text, int due) {
        Check.due(text, value(text), due);
    }

    static void good(String text) {
        Check.due("LAW " + text, Check.law(new DuskShelves(), 0, 0, text), 0);
    }

    static void fault(String text, int place) {
        Check.due("LAW " + text, Check.law(new DuskShelves(), 0, 0, text), -100 - place);
    }
}
