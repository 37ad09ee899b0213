/** The new object and promises 2 to 10, sentence by sentence. */
final class TimeEdges {
    private static final int BAD = DuskShelves.BAD, NOT = DuskShelves.NOT, FULL = DuskShelves.FULL;
    private static final int LEAST = Integer.MIN_VALUE, MOST = Integer.MAX_VALUE;

    private TimeEdges() {
    }

    static void all() {
        newObject();
        theObject();
        shops();
        kinds();
        prices();
        throwing();
        weather();
        hours();
        steps();
        warmth();
    }

    private static void newObject() {
        Sentence.test(1, "HOUR 0, no shops, no kinds, no laws.", () -> {
            DuskShelves x = new DuskShelves();
            for (int what = 0; what <= 13; what++) {
                Check.due("count(" + what + ")", x.count(what), 0);
            }
            Check.due("no LAW of SELL", x.inForce(0, 1499, 1499), NOT);
            Check.due("no LAW of GIVE", x.inForce(1, 1499, 1499), NOT);
            Check.due("no SHOP 0", x.till(0), BAD);
            Check.due("no KIND 0", x.priceAt(0, 0), BAD);
            Check.due("the HOUR behind it", x.hours(1), 1);
        });
        Sentence.test(1, "BAD = -1, NOT = -2, FULL = -3, BIG = -4, VOID = -2000000000;", () -> {
            Check.due("BAD", DuskShelves.BAD, -1);
            Check.due("NOT", DuskShelves.NOT, -2);
            Check.due("FULL", DuskShelves.FULL, -3);
            Check.due("BIG", DuskShelves.BIG, -4);
            Check.due("VOID", DuskShelves.VOID, -2000000000);
        });
    }

    private static void theObject() {
        Sentence.test(40, "An object is used for at most 512 calls after it has been made", () -> {
            DuskShelves x = new DuskShelves();
            x.shop(0);
            x.kind(1, 1, 1, 0);
            x.batch(0, 0, 0, 400);
            x.batch(0, 0, 0, 108);
            for (int call = 5; call <= 511; call++) {
                Check.due("call " + call, x.bin(call <= 404 ? 0 : 1, 1, 0), call <= 404 ? 404 - call : 512 - call);
            }
            Check.due("call 512", x.count(12), 507);
        });
        Sentence.test(1, "All memory is the class's own.", () -> {
            DuskShelves x = Worlds.shops(1);
            DuskShelves y = new DuskShelves();
            Check.due("the other has no SHOP", y.count(0), 0);
            y.shop(9999);
            y.kind(7, 7, 7, 0);
            y.hours(7);
            Check.due("the first keeps its PRICE", x.priceAt(0, 0), 100);
            Check.due("the first keeps its HOUR", x.count(5), 0);
        });
        Sentence.test(7, "HOUR is a count, 24 a DAY, 0 at first, at most 35999.", () -> {
            DuskShelves x = Worlds.shops(1);
            Check.due("at first", x.count(5), 0);
            Worlds.until(x, 0, 23);
            Check.due("HOUR 23 is of DAY 0", x.batch(0, 0, 1, 1), BAD);
            x.hours(1);
            Check.due("HOUR 24 is of DAY 1", x.batch(0, 0, 1, 1), 0);
            Worlds.until(x, 1499, 23);
            Check.due("the last HOUR", x.count(5), 35999);
            Check.due("none behind it", x.hours(1), BAD);
            Check.due("it is of DAY 1499", x.ofBatch(x.batch(0, 0, 0, 1), 3), 1499);
        });
    }

    private static void shops() {
        Sentence.test(2, "SHOPS 0 .. 11: a PLACE (x, y: 0 .. 99 each).", () -> {
            DuskShelves x = new DuskShelves();
            for (int i = 0; i <= 11; i++) {
                Check.due("SHOP " + i, x.shop(i), i);
            }
            Check.due("SHOP 12", x.shop(12), FULL);
            Check.due("there are twelve", x.count(0), 12);
            Check.due("SHOP 11 is there", x.till(11), 0);
            Check.due("SHOP 12 is not", x.till(12), BAD);
            for (int corner : new int[] {0, 99, 9900, 9999}) {
                Check.due("a SHOP at " + corner, new DuskShelves().shop(corner), 0);
            }
            Check.due("x 100", new DuskShelves().shop(10000), BAD);
            Check.due("y -1", new DuskShelves().shop(-1), BAD);
        });
        Sentence.test(2, "A SHOP at a place (100 x, and y): its number.", () -> {
            DuskShelves x = new DuskShelves();
            Check.due("the first", x.shop(199), 0);
            Check.due("the second", x.shop(200), 1);
            x.crates(0, 0, 1);
            x.crates(1, 1, 1);
            Check.due("from (1, 99) to (2, 0)", x.ways(), 100);
        });
        Sentence.test(2, "BAD, FULL.", () -> {
            Check.bounds("shop(*)", 0, 9999, BAD, v -> new DuskShelves().shop(v));
            DuskShelves x = Worlds.shops(11);
            Check.due("the one that fills", x.shop(9999), 11);
            Check.due("one more", x.shop(0), FULL);
            Check.due("BAD ahead of FULL, above", x.shop(10000), BAD);
            Check.due("BAD ahead of FULL, below", x.shop(-1), BAD);
        });
    }

    private static void kinds() {
        Sentence.test(3, "KINDS 0 .. 9: PRICE (1 .. 9999), COST (0 .. 9999), GRAMS (1 .. 9999), COLD or not.", () -> {
            DuskShelves x = new DuskShelves();
            for (int i = 0; i <= 9; i++) {
                Check.due("KIND " + i, x.kind(1, 0, 1, 0), i);
            }
            Check.due("KIND 10", x.kind(1, 0, 1, 0), FULL);
            Check.due("KIND 9 is there", x.priceAt(9, 0), 1);
            Check.due("KIND 10 is not", x.priceAt(10, 0), BAD);
            Check.bounds("kind(*, 0, 1, 0)", 1, 9999, BAD, v -> new DuskShelves().kind(v, 0, 1, 0));
            Check.bounds("kind(1, *, 1, 0)", 0, 9999, BAD, v -> new DuskShelves().kind(1, v, 1, 0));
            Check.bounds("kind(1, 0, *, 0)", 1, 9999, BAD, v -> new DuskShelves().kind(1, 0, v, 0));
            Check.bounds("kind(1, 0, 1, *)", 0, 1, BAD, v -> new DuskShelves().kind(1, 0, 1, v));
        });
        Sentence.test(3, "A KIND: its number.", () -> {
            DuskShelves x = new DuskShelves();
            x.shop(0);
            Check.due("the least of all", x.kind(1, 0, 1, 0), 0);
            Check.due("the most of all", x.kind(9999, 9999, 9999, 1), 1);
            x.batch(0, 0, 0, 1);
            x.batch(0, 100, 0, 1);
            Check.due("PRICES", x.priceAt(0, 0) + 10000 * x.priceAt(1, 0), 99990001);
            Check.due("COSTS", x.count(8), 9999);
            Check.due("one of GRAMS 1", x.bin(0, 1, 0), 0);
            Check.due("GRAMS 1", x.tossed(0), 1);
            Check.due("one of GRAMS 9999", x.bin(1, 1, 0), 0);
            Check.due("GRAMS 9999 more", x.tossed(0), 10000);
            Check.law(x, 0, 0, "c");
            Check.due("not COLD", x.says(0, 0), 0);
            Check.due("COLD", x.says(0, 1), 1);
        });
        Sentence.test(3, "BAD, FULL.", () -> {
            DuskShelves x = new DuskShelves();
            for (int i = 0; i < 9; i++) {
                x.kind(1, 0, 1, 0);
            }
            Check.due("the one that fills", x.kind(9999, 9999, 9999, 1), 9);
            Check.due("one more", x.kind(9999, 9999, 9999, 1), FULL);
            Check.due("BAD PRICE ahead of FULL", x.kind(0, 0, 1, 0), BAD);
            Check.due("BAD COST ahead of FULL", x.kind(1, -1, 1, 0), BAD);
            Check.due("BAD GRAMS ahead of FULL", x.kind(1, 0, 0, 0), BAD);
            Check.due("BAD COLD ahead of FULL", x.kind(1, 0, 1, 2), BAD);
            Check.due("there are ten", x.count(1), 10);
        });
    }

    private static void prices() {
        Sentence.test(4, "STEPS of price 0 .. 3: 100, 75, 50, 25 hundredths of PRICE (the rest away).", () -> {
            int[][] due = {{1, 1, 0, 0, 0}, {2, 2, 1, 1, 0}, {3, 3, 2, 1, 0}, {4, 4, 3, 2, 1},
                {5, 5, 3, 2, 1}, {9999, 9999, 7499, 4999, 2499}};
            for (int[] row : due) {
                DuskShelves x = new DuskShelves();
                x.kind(row[0], 0, 1, 0);
                for (int step = 0; step <= 3; step++) {
                    Check.due("PRICE " + row[0] + " at STEP " + step, x.priceAt(0, step), row[1 + step]);
                }
            }
        });
        Sentence.test(4, "PRICE at a STEP.", () -> {
            DuskShelves x = new DuskShelves();
            x.kind(200, 0, 1, 0);
            x.kind(40, 0, 1, 0);
            Check.due("of the first KIND at the first STEP", x.priceAt(0, 0), 200);
            Check.due("of the first KIND at the last STEP", x.priceAt(0, 3), 50);
            Check.due("of the last KIND at the last STEP", x.priceAt(1, 3), 10);
        });
        Sentence.test(4, "BAD.", () -> {
            Check.bounds("priceAt(*, 0)", 0, 0, BAD, v -> Worlds.shops(0).priceAt(v, 0));
            Check.bounds("priceAt(0, *)", 0, 3, BAD, v -> Worlds.shops(0).priceAt(0, v));
            Check.due("no KIND at all", new DuskShelves().priceAt(0, 0), BAD);
        });
    }

    private static void throwing() {
        Sentence.test(5, "THROW of a KIND becomes v: what it was.", () -> {
            DuskShelves x = Worlds.shops(0);
            x.kind(1, 1, 1, 0);
            Check.due("0 at first, then the most", x.throwing(0, 9999), 0);
            Check.due("the most, then the least", x.throwing(0, 0), 9999);
            Check.due("the least", x.throwing(0, 1), 0);
            Check.due("the other KIND has its own", x.throwing(1, 5), 0);
            Check.due("the first is as it was", x.throwing(0, 1), 1);
        });
        Sentence.test(5, "BAD.", () -> {
            Check.bounds("throwing(*, 0)", 0, 0, BAD, v -> Worlds.shops(0).throwing(v, 0));
            Check.bounds("throwing(0, *)", 0, 9999, BAD, v -> Worlds.shops(0).throwing(0, v));
            DuskShelves x = Worlds.shops(0);
            x.throwing(0, 7);
            x.throwing(0, 10000);
            x.throwing(0, -1);
            Check.due("a refused v is not taken", x.throwing(0, 0), 7);
        });
    }

    private static void weather() {
        Sentence.test(6, "WEATHER of a DAY: 0 fair, 1 rain, 2 heat (told; 0 at first).", () -> {
            Check.bounds("weather(0, *)", 0, 2, BAD, v -> new DuskShelves().weather(0, v));
            DuskShelves x = Worlds.shops(1);
            x.batch(0, 0, 0, 1);
            Check.law(x, 0, 0, "w");
            Check.due("fair at first", x.says(0, 0), 0);
            x.weather(0, 1);
            Check.due("rain", x.says(0, 0), 1);
            x.weather(0, 2);
            Check.due("heat", x.says(0, 0), 2);
            x.hours(23);
            Check.due("to the last HOUR", x.says(0, 0), 2);
            x.hours(1);
            Check.due("not on the next DAY", x.says(0, 0), 0);
        });
        Sentence.test(6, "WEATHER of a DAY (0 .. 1499): what it was.", () -> {
            Check.bounds("weather(*, 1)", 0, 1499, BAD, v -> new DuskShelves().weather(v, 1));
            DuskShelves x = new DuskShelves();
            for (int day : new int[] {0, 1, 1498, 1499}) {
                Check.due("of DAY " + day + " at first", x.weather(day, 2), 0);
                Check.due("of DAY " + day + " then", x.weather(day, 1), 2);
            }
            Check.due("of DAY 0 at last", x.weather(0, 0), 1);
        });
        Sentence.test(6, "BAD.", () -> {
            DuskShelves x = new DuskShelves();
            x.weather(1499, 2);
            Check.due("v 3", x.weather(1499, 3), BAD);
            Check.due("v -1", x.weather(1499, -1), BAD);
            Check.due("DAY 1500", x.weather(1500, 1), BAD);
            Check.due("DAY -1", x.weather(-1, 1), BAD);
            Check.due("a refused v is not taken", x.weather(1499, 0), 2);
        });
    }

    private static void hours() {
        Sentence.test(7, "n (1 .. 240) HOURS go by: HOUR.", () -> {
            Check.bounds("hours(*)", 1, 240, BAD, v -> new DuskShelves().hours(v));
            DuskShelves x = new DuskShelves();
            Check.due("no HOUR", x.hours(0), BAD);
            Check.due("one HOUR", x.hours(1), 1);
            Check.due("240 HOURS", x.hours(240), 241);
            Check.due("241 HOURS", x.hours(241), BAD);
            Check.due("as it was", x.count(5), 241);
        });
        Sentence.test(7, "BAD (also beyond 35999).", () -> {
            DuskShelves x = Worlds.shops(0, 1489, 23);
            Check.due("240 up to 35999", x.hours(240), 35999);
            Check.due("1 beyond", x.hours(1), BAD);
            Check.due("240 beyond", x.hours(240), BAD);
            Check.due("so many that a sum would wrap", x.hours(MOST), BAD);
            Check.due("so few that a sum would wrap", x.hours(LEAST), BAD);
            Check.due("HOUR stays", x.count(5), 35999);
            DuskShelves y = Worlds.shops(0, 1490, 0);
            Check.due("240 up to 36000", y.hours(240), BAD);
            Check.due("HOUR stays", y.count(5), 35760);
            Check.due("239 up to 35999", y.hours(239), 35999);
        });
    }

    private static void steps() {
        Sentence.test(8, "Each SHOP and KIND has a STEP: 0 when a DAY begins; it is told to be a greater one in the "
            + "course of a DAY (never a lesser one).", () -> {
            DuskShelves x = Worlds.shops(12);
            for (int i = 1; i < 10; i++) {
                x.kind(1, 1, 1, 0);
            }
            Check.due("the first SHOP and KIND", x.cut(0, 0, 3), 0);
            Check.due("the last SHOP and KIND", x.cut(11, 9, 2), 0);
            Check.due("the last KIND of the first SHOP", x.step(0, 9), 0);
            Check.due("the first KIND of the last SHOP", x.step(11, 0), 0);
            x.hours(23);
            Check.due("STEP in the last HOUR of the DAY", x.step(0, 0), 3);
            Check.due("no lesser one", x.cut(0, 0, 2), NOT);
            Check.due("nor 0", x.cut(0, 0, 0), NOT);
            x.hours(1);
            Check.due("the first, when a DAY begins", x.step(0, 0), 0);
            Check.due("the last, when a DAY begins", x.step(11, 9), 0);
            Check.due("a greater one on the new DAY", x.cut(0, 0, 1), 0);
            x.cut(11, 9, 1);
            x.hours(240);
            Check.due("0 behind ten DAYS", x.step(0, 0) + x.step(11, 9), 0);
        });
        Sentence.test(8, "STEP of a SHOP's KIND becomes a greater one: what it was.", () -> {
            DuskShelves x = Worlds.shops(2);
            Check.due("0 to 1", x.cut(0, 0, 1), 0);
            Check.due("1 to 3", x.cut(0, 0, 3), 1);
            Check.due("0 to 3", x.cut(1, 0, 3), 0);
            Check.due("the first is 3", x.step(0, 0), 3);
        });
        Sentence.test(8, "BAD; NOT: it is not greater.", () -> {
            DuskShelves x = Worlds.shops(1);
            Check.due("0 is not above 0", x.cut(0, 0, 0), NOT);
            Check.due("1 is", x.cut(0, 0, 1), 0);
            Check.due("1 is not above 1", x.cut(0, 0, 1), NOT);
            Check.due("0 is not above 1", x.cut(0, 0, 0), NOT);
            Check.due("3 is", x.cut(0, 0, 3), 1);
            Check.due("3 is not above 3", x.cut(0, 0, 3), NOT);
            Check.due("STEP stays", x.step(0, 0), 3);
            Check.due("BAD ahead of NOT: -1", x.cut(0, 0, -1), BAD);
            Check.due("BAD ahead of NOT: no such SHOP", x.cut(1, 0, 0), BAD);
            Check.due("BAD ahead of NOT: no such KIND", x.cut(0, 1, 0), BAD);
            Check.bounds("cut(*, 0, 1)", 0, 1, BAD, v -> Worlds.shops(2).cut(v, 0, 1));
            Check.bounds("cut(0, *, 1)", 0, 0, BAD, v -> Worlds.shops(2).cut(0, v, 1));
            Check.bounds("cut(0, 0, *)", 0, 3, BAD, v -> Worlds.shops(2).cut(0, 0, v));
        });
        Sentence.test(9, "STEP now.", () -> {
            DuskShelves x = Worlds.shops(2);
            Check.due("0 at first", x.step(0, 0), 0);
            x.cut(0, 0, 3);
            Check.due("the greatest", x.step(0, 0), 3);
            Check.due("of the other SHOP", x.step(1, 0), 0);
        });
        Sentence.test(9, "BAD.", () -> {
            Check.bounds("step(*, 0)", 0, 1, BAD, v -> Worlds.shops(2).step(v, 0));
            Check.bounds("step(0, *)", 0, 0, BAD, v -> Worlds.shops(2).step(0, v));
        });
    }

    private static void warmth() {
        Sentence.test(10, "WARM HOURS of a SHOP's KIND TODAY become n (0 .. 24): what they were.", () -> {
            Check.bounds("warm(0, 0, *)", 0, 24, BAD, v -> Worlds.shops(2).warm(0, 0, v));
            DuskShelves x = Worlds.shops(2);
            x.kind(1, 1, 1, 0);
            Check.due("0 at first, then the most", x.warm(0, 0, 24), 0);
            Check.due("fewer than they were", x.warm(0, 0, 1), 24);
            Check.due("of the other SHOP", x.warm(1, 0, 5), 0);
            Check.due("of the other KIND", x.warm(0, 1, 5), 0);
            x.hours(23);
            Check.due("in the last HOUR of TODAY", x.warm(0, 0, 2), 1);
            x.hours(1);
            Check.due("0 TODAY", x.warm(0, 0, 0), 0);
        });
        Sentence.test(10, "BAD.", () -> {
            Check.bounds("warm(*, 0, 0)", 0, 1, BAD, v -> Worlds.shops(2).warm(v, 0, 0));
            Check.bounds("warm(0, *, 0)", 0, 0, BAD, v -> Worlds.shops(2).warm(0, v, 0));
            DuskShelves x = Worlds.shops(1);
            x.warm(0, 0, 24);
            x.warm(0, 0, 25);
            x.warm(0, 0, -1);
            Check.due("a refused n is not taken", x.warm(0, 0, 0), 24);
        });
    }
}
