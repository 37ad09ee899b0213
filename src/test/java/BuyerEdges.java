/** Promises 19 to 23, sentence by sentence. */
final class BuyerEdges {
    private static final int BAD = DuskShelves.BAD, NOT = DuskShelves.NOT, FULL = DuskShelves.FULL;
    private static final int VOID = DuskShelves.VOID;

    private BuyerEdges() {
    }

    static void all() {
        open();
        buy();
        rows();
        foretold();
        fewerThanThree();
        planWhen();
        planSteps();
        planWorth();
        planned();
    }

    private static void open() {
        Sentence.test(19, "Shops are open in HOURS 6 to 19 of a DAY.", () -> {
            DuskShelves x = Worlds.shops(1);
            for (int hour = 0; hour < 48; hour++) {
                boolean open = hour % 24 >= 6 && hour % 24 <= 19;
                Check.due("plan at " + hour, x.plan(0, 0), open ? 0 : VOID);
                Check.due("buy at " + hour, x.buy(0, 0, 1), open ? 0 : NOT);
                x.hours(1);
            }
        });
    }

    private static void buy() {
        Sentence.test(19, "BUYERS come to a SHOP in an HOUR for a KIND: so many pieces are asked for (told); bought "
            + "are as many as MAY BE SOLD, at the STEP as it is.", () -> {
            for (int asked = 4; asked <= 6; asked++) {
                DuskShelves x = Worlds.shops(1, 1, 6);
                x.batch(0, 0, 0, 5);
                x.batch(0, 0, 1, 5);
                Check.law(x, 0, 0, "!a");
                x.cut(0, 0, 3);
                Check.due(asked + " of 5 that MAY BE SOLD", x.buy(0, 0, asked), Math.min(5, asked));
                Check.due("on the shelf", x.shelf(0, 0, 0), 10 - Math.min(5, asked));
                Check.due("coins", x.till(0), 25 * Math.min(5, asked));
            }
            DuskShelves y = Worlds.shops(1, 0, 6);
            Check.due("nothing on the shelf", y.buy(0, 0, 999), 0);
            Check.due("it is asked for", y.early(0, 0, 0, 0), 999);
            y.batch(0, 0, 0, 9);
            y.hours(1);
            Check.due("at STEP 0", y.buy(0, 0, 1), 1);
            y.hours(1);
            y.cut(0, 0, 1);
            Check.due("at STEP 1", y.buy(0, 0, 1), 1);
            Check.due("coins", y.till(0), 100 + 75);
        });
        Sentence.test(39, "TILL: coins.", () -> {
            DuskShelves x = new DuskShelves();
            x.shop(0);
            x.kind(3, 0, 1, 0);
            x.batch(0, 0, 0, 9);
            x.hours(6);
            x.cut(0, 0, 3);
            x.buy(0, 0, 4);
            Check.due("four at 3 * 25 / 100, the rest away of each", x.till(0), 0);
            DuskShelves y = new DuskShelves();
            y.shop(0);
            for (int kind = 0; kind < 10; kind++) {
                y.kind(9999, 0, 1, 0);
                for (int i = 0; i < 20; i++) {
                    y.batch(0, 100 * kind, 0, 999);
                }
            }
            for (int i = 0; i < 20; i++) {
                Worlds.until(y, i / 14, 6 + i % 14);
                for (int kind = 0; kind < 10; kind++) {
                    y.buy(0, kind, 999);
                }
            }
            Check.due("all that can be sold at the most", y.till(0), 200 * 999 * 9999);
        });
        Sentence.test(19, "BUYERS ask in this HOUR for n (0 .. 999) pieces of a KIND: how many are bought.", () -> {
            Check.bounds("buy(0, 0, *)", 0, 999, BAD, v -> Worlds.shops(1, 0, 6).buy(0, 0, v));
            DuskShelves x = Worlds.shops(1, 0, 6);
            x.batch(0, 0, 0, 999);
            x.batch(0, 0, 0, 1);
            Check.due("none", x.buy(0, 0, 0), 0);
            Check.due("none is a ROW", x.count(3), 1);
            x.hours(1);
            Check.due("999", x.buy(0, 0, 999), 999);
            x.hours(1);
            Check.due("the last one", x.buy(0, 0, 999), 1);
        });
        Sentence.test(19, "BAD; NOT: the SHOP is not open, or there is the ROW; FULL: 600 ROWS.", () -> {
            Check.bounds("buy(*, 0, 1)", 0, 1, BAD, v -> Worlds.shops(2, 0, 6).buy(v, 0, 1));
            Check.bounds("buy(0, *, 1)", 0, 0, BAD, v -> Worlds.shops(2, 0, 6).buy(0, v, 1));
            DuskShelves x = Worlds.shops(1, 0, 5);
            Check.due("not open yet", x.buy(0, 0, 1), NOT);
            Check.due("BAD ahead of NOT: pieces, not open", x.buy(0, 0, 1000), BAD);
            Check.due("BAD ahead of NOT: SHOP, not open", x.buy(1, 0, 1), BAD);
            x.hours(1);
            Check.due("open", x.buy(0, 0, 1), 0);
            Check.due("there is the ROW", x.buy(0, 0, 1), NOT);
            Check.due("BAD ahead of NOT: pieces, there is the ROW", x.buy(0, 0, -1), BAD);
            x.hours(13);
            Check.due("at 19", x.buy(0, 0, 1), 0);
            x.hours(1);
            Check.due("closed", x.buy(0, 0, 1), NOT);
        });
    }

    /** ROWS in 12 SHOPS of 10 KINDS, 120 in an HOUR from 6 on, as many as told. */
    private static DuskShelves manyRows(int rows) {
        DuskShelves x = Worlds.shops(12);
        for (int i = 1; i < 10; i++) {
            x.kind(1, 1, 1, 0);
        }
        x.hours(6);
        for (int i = 0; i < rows; i++) {
            if (i > 0 && i % 120 == 0) {
                x.hours(1);
            }
            Check.due("ROW " + i, x.buy(i / 10 % 12, i % 10, 1), 0);
        }
        return x;
    }

    private static void rows() {
        Sentence.test(19, "Each telling is a ROW: SHOP, KIND, hour of the DAY, STEP, WEATHER (as it is then), DAY, "
            + "asked, bought (", () -> {
            DuskShelves x = Worlds.shops(2, 2, 6);
            x.kind(1, 1, 1, 0);
            x.weather(2, 2);
            x.cut(1, 1, 3);
            for (int i = 0; i < 3; i++) {
                x.buy(1, 1, 30);
                Worlds.until(x, 3 + i, 6);
                x.cut(1, 1, 3);
                x.weather(3 + i, 2);
            }
            x.weather(2, 0);
            x.weather(3, 0);
            x.weather(4, 0);
            for (int day = 5; day < 8; day++) {
                Worlds.ask(x, 0, day, 7, 9, 1);
            }
            Check.due("three with WEATHER as it was then", x.foretold(1, 1, 632, 4), 30);
            Check.due("two DAYS are known", x.early(1, 1, 0, 3), 60);
            Check.due("its DAYS", x.early(1, 1, 2, 2), 30);
            Check.due("none ahead of these", x.early(1, 1, 0, 1), 0);
            Check.due("another hour", x.foretold(1, 1, 732, 4), 0);
            Check.due("another STEP", x.foretold(1, 1, 622, 4), 0);
            Check.due("another KIND", x.foretold(1, 0, 632, 4), 0);
            Check.due("the ORDER of that WEATHER", x.order(1, 1, 22, 4), 0);
            Check.due("its LOSS", x.loss(1, 1, 22, 4, 31), 1);
            Check.due("none of the WEATHER told since", x.loss(1, 1, 20, 4, 31), 0);
            Check.due("none of another SHOP", x.loss(0, 1, 22, 4, 31), 0);
        });
        // 512 calls make fewer than 600 ROWS: the second object here goes beyond what is promised.
        Sentence.test(19, "at most 600;", () -> {
            DuskShelves x = manyRows(480);
            x.hours(1);
            Check.due("still not FULL", x.buy(0, 0, 1), 0);
            Check.due("ROWS", x.count(3), 481);
            DuskShelves y = manyRows(600);
            Check.due("there is the ROW ahead of FULL", y.buy(0, 0, 1), NOT);
            y.hours(1);
            Check.due("the first that is too many", y.buy(0, 0, 1), FULL);
            Check.due("BAD ahead of FULL", y.buy(0, 0, 1000), BAD);
            Check.due("ROWS", y.count(3), 600);
        });
        Sentence.test(19, "one for each SHOP, KIND and HOUR;", () -> {
            DuskShelves x = Worlds.shops(2, 0, 6);
            x.kind(1, 1, 1, 0);
            Check.due("the first", x.buy(0, 0, 1), 0);
            Check.due("the same again", x.buy(0, 0, 2), NOT);
            Check.due("another SHOP", x.buy(1, 0, 1), 0);
            Check.due("another KIND", x.buy(0, 1, 1), 0);
            Check.due("both", x.buy(1, 1, 1), 0);
            Check.due("the first again, behind the others", x.buy(0, 0, 1), NOT);
            x.hours(1);
            Check.due("another HOUR", x.buy(0, 0, 1), 0);
            Worlds.until(x, 1, 6);
            Check.due("the same hour of another DAY", x.buy(0, 0, 1), 0);
            Check.due("that again", x.buy(0, 0, 1), NOT);
            Check.due("ROWS", x.count(3), 6);
        });
        Sentence.test(40, "LACK is asked less bought).", () -> {
            DuskShelves x = Worlds.shops(1, 0, 6);
            x.batch(0, 0, 0, 5);
            x.buy(0, 0, 4);
            Check.due("fewer than are there", x.count(13), 0);
            x.hours(1);
            x.buy(0, 0, 1);
            Check.due("just as many", x.count(13), 0);
            x.hours(1);
            x.buy(0, 0, 999);
            Check.due("none is there", x.count(13), 999);
            x.buy(0, 0, 999);
            Check.due("a refused telling is none", x.count(13), 999);
            DuskShelves y = Worlds.shops(2, 0, 6);
            y.batch(0, 0, 0, 5);
            y.buy(0, 0, 6);
            Check.due("one more than are there, in the first ROW", y.count(13), 1);
            y.buy(1, 0, 20);
            Check.due("in all", y.count(13), 21);
        });
    }

    private static void foretold() {
        Sentence.test(20, "FORETOLD for a SHOP, KIND, hour, STEP and WEATHER AS KNOWN on DAY k: the mean of what was "
            + "asked in ROWS of DAYS up to k of the same KIND, hour and STEP:", () -> {
            DuskShelves x = Worlds.shops(1);
            x.kind(1, 1, 1, 0);
            Worlds.ask(x, 0, 1, 6, 10);
            Worlds.ask(x, 0, 2, 6, 20);
            Worlds.ask(x, 0, 3, 6, 60);
            Check.due("as known a DAY ahead", x.foretold(0, 0, 600, 0), 0);
            Check.due("on the DAY itself", x.foretold(0, 0, 600, 1), 10);
            Check.due("on the DAY behind", x.foretold(0, 0, 600, 2), 15);
            Check.due("on the last", x.foretold(0, 0, 600, 3), 30);
            Check.due("ever on", x.foretold(0, 0, 600, 1499), 30);
            Check.due("another KIND", x.foretold(0, 1, 600, 3), 0);
            Check.due("another hour", x.foretold(0, 0, 700, 3), 0);
            Check.due("another STEP", x.foretold(0, 0, 610, 3), 0);
            x.hours(23);
            x.batch(0, 0, 0, 4);
            Worlds.ask(x, 0, 4, 6, 50);
            Check.due("asked, not bought", x.foretold(0, 0, 600, 4), 35);
        });
        Sentence.test(20, "those of that SHOP and WEATHER;", () -> {
            DuskShelves x = Worlds.shops(2);
            for (int day = 0; day < 3; day++) {
                Worlds.ask(x, 0, day, 6, 10, 2);
                x.buy(1, 0, 70);
            }
            Worlds.ask(x, 0, 3, 6, 50, 1);
            Check.due("just those three", x.foretold(0, 0, 602, 9), 10);
            Check.due("just those three of the other", x.foretold(1, 0, 602, 9), 70);
        });
        Sentence.test(20, "if none: 0.", () -> {
            DuskShelves x = Worlds.shops(2);
            Check.due("none", x.foretold(0, 0, 600, 0), 0);
            Worlds.ask(x, 1, 0, 6, 7);
            Check.due("one of another SHOP", x.foretold(0, 0, 602, 0), 7);
            DuskShelves y = Worlds.shops(2);
            Worlds.ask(y, 1, 0, 6, 0);
            Check.due("one that asks for none", y.foretold(0, 0, 602, 0), 0);
        });
        Sentence.test(20, "(Rounded: halves up.)", () -> {
            int[][] due = {{0, 1, 0, 0}, {1, 1, 1, 1}, {0, 0, 0, 0}, {0, 1, 1, 1}, {998, 999, 999, 999}, {2, 3, 2, 2},
                {1, 1, 2, 1}, {999, 999, 998, 999}, {998, 998, 999, 998}};
            for (int[] d : due) {
                DuskShelves x = Worlds.shops(2);
                Worlds.ask(x, 0, 0, 6, d[0]);
                Worlds.ask(x, 0, 1, 6, d[1]);
                Check.due("of " + d[0] + " and " + d[1], x.foretold(0, 0, 600, 1), (d[0] + d[1] + 1) / 2);
                Worlds.ask(x, 0, 2, 6, d[2]);
                Check.due("and " + d[2] + ": a third less or more", x.foretold(0, 0, 600, 2), d[3]);
                Check.due("of these with any WEATHER", x.foretold(0, 0, 602, 2), d[3]);
                Check.due("of these in any SHOP", x.foretold(1, 0, 600, 2), d[3]);
            }
        });
        Sentence.test(20, "FORETOLD: what: 100 times the hour (6 .. 19), 10 times the STEP, and WEATHER.", () -> {
            Check.bounds("foretold(0, 0, *, 0)", 600, 1932, BAD, v -> Worlds.shops(1).foretold(0, 0, v, 0));
            DuskShelves x = Worlds.shops(1);
            for (int what = 500; what <= 2100; what++) {
                int hour = what / 100;
                boolean good = hour >= 6 && hour <= 19 && what / 10 % 10 <= 3 && what % 10 <= 2;
                if (what % 400 == 0) {
                    x = Worlds.shops(1);
                }
                Check.due("what " + what, x.foretold(0, 0, what, 0), good ? 0 : BAD);
            }
            DuskShelves y = Worlds.shops(1, 0, 19);
            y.weather(0, 2);
            y.cut(0, 0, 3);
            y.buy(0, 0, 8);
            Check.due("19, STEP 3", y.foretold(0, 0, 1932, 0), 8);
            Check.due("19, STEP 2", y.foretold(0, 0, 1922, 0), 0);
            Check.due("18, STEP 3", y.foretold(0, 0, 1832, 0), 0);
        });
        Sentence.test(20, "BAD.", () -> {
            Check.bounds("foretold(*, 0, 600, 0)", 0, 1, BAD, v -> Worlds.shops(2).foretold(v, 0, 600, 0));
            Check.bounds("foretold(0, *, 600, 0)", 0, 0, BAD, v -> Worlds.shops(2).foretold(0, v, 600, 0));
            Check.bounds("foretold(0, 0, 600, *)", 0, 1499, BAD, v -> Worlds.shops(2).foretold(0, 0, 600, v));
        });
    }

    private static void fewerThanThree() {
        Sentence.test(20, "if these are fewer than 3: of that SHOP with any WEATHER;", () -> {
            DuskShelves x = Worlds.shops(2);
            Worlds.ask(x, 0, 0, 6, 100, 0);
            x.buy(1, 0, 900);
            Worlds.ask(x, 0, 1, 6, 10, 2);
            Worlds.ask(x, 0, 2, 6, 10, 2);
            Check.due("two of heat are too few", x.foretold(0, 0, 602, 9), 40);
            Check.due("one fair is too few", x.foretold(0, 0, 600, 9), 40);
            Check.due("none of rain is too few", x.foretold(0, 0, 601, 9), 40);
            Worlds.ask(x, 0, 3, 6, 10, 2);
            Check.due("three of heat are not", x.foretold(0, 0, 602, 9), 10);
            Check.due("as known with two", x.foretold(0, 0, 602, 2), 40);
            Check.due("four of any", x.foretold(0, 0, 601, 9), 33);
        });
        Sentence.test(20, "if fewer than 3: of all SHOPS with any WEATHER;", () -> {
            DuskShelves x = Worlds.shops(2);
            Worlds.ask(x, 1, 0, 6, 94, 1);
            Worlds.ask(x, 0, 1, 6, 10, 2);
            Worlds.ask(x, 0, 2, 6, 10, 0);
            Check.due("two of the SHOP are too few", x.foretold(0, 0, 602, 9), 38);
            Check.due("one of the SHOP is too few", x.foretold(1, 0, 601, 9), 38);
            Worlds.ask(x, 0, 3, 6, 10, 1);
            Check.due("three of the SHOP are not", x.foretold(0, 0, 602, 9), 10);
            Check.due("as known with two", x.foretold(0, 0, 602, 2), 38);
            Check.due("one of the other still", x.foretold(1, 0, 601, 9), 31);
        });
    }

    /** SHOP 2 and KIND 1, beside SHOP 1 of the same KIND and KIND 2 of the same SHOP. */
    private static void planOfOne() {
        DuskShelves x = Worlds.shops(3);
        x.kind(50, 20, 1, 0);
        x.kind(1, 9, 1, 0);
        x.throwing(1, 4);
        x.throwing(2, 9990);
        for (int day = 0; day < 3; day++) {
            Worlds.until(x, day, 19);
            x.buy(2, 1, 5);
            x.buy(1, 1, 9);
            x.buy(2, 2, 13);
        }
        Worlds.until(x, 3, 19);
        x.batch(2, 100, 0, 6);
        x.batch(1, 100, 0, 20);
        x.batch(2, 200, 0, 30);
        x.cut(1, 1, 2);
        x.cut(2, 2, 3);
        Check.due("WORTH of SHOP 2 and KIND 1", x.plan(2, 1), 5 * 50 - 4);
        Check.due("its STEP", x.planned(19), 0);
        Check.due("left of it", x.left(), 1);
        Check.due("WORTH of SHOP 1", x.plan(1, 1), -20 * 4);
        Check.due("WORTH of KIND 2", x.plan(2, 2), -30 * 9990);
    }

    private static void planWhen() {
        Sentence.test(21, "THE PLAN of cuts for a SHOP and KIND from now on (an HOUR in which it is open, which has "
            + "not its ROW yet):", () -> {
            DuskShelves x = Worlds.shops(2, 0, 5);
            x.kind(1, 1, 1, 0);
            Check.due("at 5", x.plan(0, 0), VOID);
            x.hours(1);
            Check.due("at 6", x.plan(0, 0), 0);
            x.buy(0, 0, 1);
            Check.due("with its ROW", x.plan(0, 0), VOID);
            Check.due("another SHOP", x.plan(1, 0), 0);
            Check.due("another KIND", x.plan(0, 1), 0);
            x.hours(13);
            Check.due("at 19", x.plan(0, 0), 0);
            x.hours(1);
            Check.due("at 20", x.plan(0, 0), VOID);
            planOfOne();
        });
        Sentence.test(21, "THE PLAN: WORTH.", () -> {
            DuskShelves x = tables(new int[] {3, 0, 0, 0}, new int[] {2, 0, 0, 0});
            x.batch(0, 0, 0, 4);
            Check.due("3 and 1 at 100", x.plan(0, 0), 400);
        });
        Sentence.test(21, "VOID: BAD, or it is not open now, or has its ROW.", () -> {
            Check.bounds("plan(*, 0)", 0, 1, VOID, v -> Worlds.shops(2, 0, 6).plan(v, 0));
            Check.bounds("plan(0, *)", 0, 0, VOID, v -> Worlds.shops(2, 0, 6).plan(0, v));
            DuskShelves x = Worlds.shops(1, 1, 20);
            Check.due("not open at 20", x.plan(0, 0), VOID);
            x.hours(10);
            Check.due("open at 6", x.plan(0, 0), 0);
            x.buy(0, 0, 0);
            Check.due("has its ROW", x.plan(0, 0), VOID);
            x.hours(1);
            Check.due("not that of this HOUR", x.plan(0, 0), 0);
        });
    }

    /**
     * At 18 on DAY 1, SHOP 0: so many are FORETOLD at 18 and at 19 at each STEP, by the SHOPS 1 to 4, each
     * of which asked at its own STEP on DAY 0.
     */
    private static DuskShelves tables(int[] at18, int[] at19) {
        DuskShelves x = Worlds.shops(5, 0, 18);
        for (int step = 0; step <= 3; step++) {
            x.cut(1 + step, 0, step);
            x.buy(1 + step, 0, at18[step]);
        }
        x.hours(1);
        for (int step = 0; step <= 3; step++) {
            x.buy(1 + step, 0, at19[step]);
        }
        Worlds.until(x, 1, 18);
        return x;
    }

    private static void plan(DuskShelves x, int worth, int step18, int step19, int left) {
        Check.due("WORTH", x.plan(0, 0), worth);
        Check.due("STEP at 18", x.planned(18), step18);
        Check.due("STEP at 19", x.planned(19), step19);
        Check.due("left", x.left(), left);
    }

    private static void planSteps() {
        Sentence.test(21, "for each HOUR up to 19 a STEP, never a lesser one than ahead or now;", () -> {
            // 5 at 75 at 18 and 4 at 100 at 19 would be the most, but STEPS never fall.
            DuskShelves x = tables(new int[] {0, 5, 0, 0}, new int[] {4, 3, 0, 0});
            x.batch(0, 0, 0, 50);
            plan(x, 5 * 75 + 3 * 75, 1, 1, 42);
            x.cut(0, 0, 1);
            plan(x, 5 * 75 + 3 * 75, 1, 1, 42);
            x.cut(0, 0, 2);
            plan(x, 0, 2, 2, 50);
            x.cut(0, 0, 3);
            plan(x, 0, 3, 3, 50);
            // From 6 on, the last of all ways: the greatest STEP in each HOUR.
            DuskShelves w = Worlds.shops(2, 0, 6);
            w.cut(1, 0, 3);
            w.buy(1, 0, 8);
            Worlds.until(w, 1, 6);
            w.batch(0, 0, 0, 50);
            Check.due("WORTH", w.plan(0, 0), 8 * 25);
            for (int hour = 6; hour <= 19; hour++) {
                Check.due("STEP at " + hour, w.planned(hour), 3);
            }
            // They may rise, by as much as there is.
            DuskShelves y = tables(new int[] {1, 0, 0, 0}, new int[] {0, 0, 0, 9});
            y.batch(0, 0, 0, 50);
            plan(y, 100 + 9 * 25, 0, 3, 40);
            y.hours(1);
            Check.due("at 19 the last HOUR alone", y.plan(0, 0), 9 * 25);
            Check.due("its STEP", y.planned(19), 3);
            Check.due("none behind 19", y.planned(20), BAD);
        });
        Sentence.test(21, "of several the first: by HOURS, the lesser STEP.", () -> {
            DuskShelves none = tables(new int[4], new int[4]);
            plan(none, 0, 0, 0, 0);
            // 300 at each STEP of the four at 19.
            DuskShelves x = tables(new int[4], new int[] {3, 4, 6, 12});
            x.batch(0, 0, 0, 12);
            plan(x, 300, 0, 0, 9);
            x.cut(0, 0, 1);
            plan(x, 300, 1, 1, 8);
            // 0 then 1 brings as much as 1 then 1: the lesser STEP in the earlier HOUR.
            DuskShelves y = tables(new int[] {3, 4, 0, 0}, new int[] {1, 2, 0, 0});
            y.batch(0, 0, 0, 10);
            plan(y, 450, 0, 1, 5);
            // 0 then 0 brings as much as 1 then 1.
            DuskShelves z = tables(new int[] {3, 4, 0, 0}, new int[] {3, 4, 0, 0});
            z.batch(0, 0, 0, 10);
            plan(z, 600, 0, 0, 4);
        });
    }

    private static void planWorth() {
        Sentence.test(21, "of each HOUR as much is bought as FORETOLD (with TODAY's WEATHER, AS KNOWN TODAY), or what "
            + "is left of what MAY BE SOLD now;", () -> {
            int[][] due = {{0, 0, 0}, {1, 100, 0}, {2, 200, 0}, {3, 300, 0}, {4, 400, 0}, {5, 500, 0}, {6, 500, 1}};
            for (int[] d : due) {
                DuskShelves x = tables(new int[] {3, 0, 0, 0}, new int[] {2, 0, 0, 0});
                for (int i = 0; i < d[0]; i++) {
                    x.batch(0, i, 0, 1);
                }
                x.batch(0, 0, 1, 90);
                Check.law(x, 0, 0, "!a");
                plan(x, d[1], 0, 0, d[2]);
            }
            DuskShelves part = tables(new int[] {3, 0, 0, 0}, new int[] {2, 0, 0, 0});
            part.batch(0, 0, 0, 9);
            part.bin(0, 5, 0);
            plan(part, 400, 0, 0, 0);
            DuskShelves y = Worlds.shops(2);
            for (int day = 0; day < 6; day++) {
                Worlds.ask(y, 0, day, 19, day < 3 ? 2 : 6, day < 3 ? 0 : 1);
            }
            Worlds.until(y, 6, 19);
            y.batch(0, 0, 0, 9);
            Check.due("TODAY fair", y.plan(0, 0), 200);
            y.weather(6, 1);
            Check.due("TODAY rain", y.plan(0, 0), 600);
            y.weather(6, 2);
            Check.due("TODAY heat: with any", y.plan(0, 0), 400);
            DuskShelves z = Worlds.shops(2, 0, 19);
            z.batch(0, 0, 0, 9);
            Check.due("nothing is known", z.plan(0, 0), 0);
            z.buy(1, 0, 5);
            Check.due("known TODAY, of this HOUR in another SHOP", z.plan(0, 0), 500);
        });
        Sentence.test(21, "WORTH is what these bring, less THROW (0 .. 9999, told of a KIND; 0 at first) for each "
            + "piece left behind 19.", () -> {
            DuskShelves x = tables(new int[] {1, 0, 0, 0}, new int[] {1, 2, 0, 0});
            x.batch(0, 0, 0, 2);
            x.throwing(0, 9999);
            plan(x, 200, 0, 0, 0);
            x.batch(0, 0, 0, 1);
            plan(x, 100 + 2 * 75, 0, 1, 0);
            x.batch(0, 0, 0, 1);
            plan(x, 100 + 2 * 75 - 9999, 0, 1, 1);
            x.throwing(0, 0);
            plan(x, 100 + 2 * 75, 0, 1, 1);
            DuskShelves y = Worlds.shops(1, 0, 19);
            for (int i = 0; i < 200; i++) {
                y.batch(0, 0, 0, 999);
            }
            Check.due("THROW is 0 at first", y.plan(0, 0), 0);
            y.throwing(0, 9999);
            Check.due("the least of all", y.plan(0, 0), -200 * 999 * 9999);
            Check.due("all of it", y.left(), 200 * 999);
        });
        Sentence.test(21, "THE PLAN is that of the greatest WORTH;", () -> {
            DuskShelves x = tables(new int[] {3, 0, 0, 0}, new int[] {0, 5, 0, 0});
            x.batch(0, 0, 0, 50);
            plan(x, 300 + 5 * 75, 0, 1, 42);
            DuskShelves y = tables(new int[] {3, 5, 0, 0}, new int[] {0, 0, 0, 0});
            y.batch(0, 0, 0, 50);
            plan(y, 375, 1, 1, 45);
            // What is sold cheaply ahead is missing behind.
            DuskShelves z = tables(new int[] {0, 5, 0, 0}, new int[] {4, 0, 0, 0});
            z.batch(0, 0, 0, 4);
            plan(z, 400, 0, 0, 0);
            z.batch(0, 0, 0, 2);
            plan(z, 400, 0, 0, 2);
            z.throwing(0, 24);
            plan(z, 400 - 2 * 24, 0, 0, 2);
            // Above 25 it is worth more to sell 5 at 75 than 4 at 100.
            z.throwing(0, 26);
            plan(z, 5 * 75 - 26, 1, 1, 1);
            z.throwing(0, 25);
            plan(z, 400 - 2 * 25, 0, 0, 2);
        });
    }

    private static void planned() {
        Sentence.test(22, "The STEP of an HOUR (of the DAY: from that of the plan to 19) in the latest plan() that "
            + "was not VOID.", () -> {
            DuskShelves x = tables(new int[] {1, 0, 0, 0}, new int[] {0, 9, 0, 0});
            x.batch(0, 0, 0, 50);
            x.plan(0, 0);
            Check.due("ahead of it", x.planned(17), BAD);
            Check.due("the first HOUR", x.planned(18), 0);
            Check.due("the last HOUR", x.planned(19), 1);
            Check.due("behind 19", x.planned(20), BAD);
            x.cut(0, 0, 2);
            Check.due("as it was planned", x.planned(18), 0);
            x.plan(0, 0);
            Check.due("by the latest", x.planned(18), 2);
            x.plan(5, 0);
            x.plan(0, 1);
            x.hours(2);
            x.plan(0, 0);
            Check.due("not by one that was VOID", x.planned(18), 2);
            Worlds.until(x, 2, 6);
            x.plan(0, 0);
            Check.due("from 6 on", x.planned(6), 0);
            Check.due("not from 5", x.planned(5), BAD);
        });
        Sentence.test(22, "BAD: none such, or before any.", () -> {
            DuskShelves x = Worlds.shops(1, 0, 6);
            for (int hour = 5; hour <= 20; hour++) {
                Check.due("before any, " + hour, x.planned(hour), BAD);
            }
            Check.due("a VOID one", x.plan(1, 0), VOID);
            Check.due("is none", x.planned(6), BAD);
            Check.bounds("planned(*) of 6", 6, 19, BAD, v -> planOf(6).planned(v));
            Check.bounds("planned(*) of 7", 7, 19, BAD, v -> planOf(7).planned(v));
            Check.bounds("planned(*) of 19", 19, 19, BAD, v -> planOf(19).planned(v));
        });
        Sentence.test(23, "How many pieces would be left by it.", () -> {
            DuskShelves x = tables(new int[] {1, 0, 0, 0}, new int[] {2, 0, 0, 0});
            x.batch(0, 0, 0, 3);
            x.plan(0, 0);
            Check.due("none", x.left(), 0);
            x.batch(0, 0, 0, 1);
            Check.due("by the latest plan", x.left(), 0);
            x.plan(0, 0);
            Check.due("one", x.left(), 1);
            x.buy(0, 0, 4);
            x.plan(0, 0);
            Check.due("not by one that was VOID", x.left(), 1);
        });
        Sentence.test(23, "BAD: before any.", () -> {
            DuskShelves x = Worlds.shops(1);
            Check.due("before any", x.left(), BAD);
            x.plan(0, 0);
            Check.due("a VOID one is none", x.left(), BAD);
            x.hours(6);
            x.plan(0, 0);
            Check.due("behind one", x.left(), 0);
        });
    }

    private static DuskShelves planOf(int hour) {
        DuskShelves x = Worlds.shops(1, 0, hour);
        x.plan(0, 0);
        return x;
    }
}
