/** Promises 33 to 40, sentence by sentence. */
final class GiftEdges {
    private static final int BAD = DuskShelves.BAD, NOT = DuskShelves.NOT, FULL = DuskShelves.FULL;

    private GiftEdges() {
    }

    static void all() {
        kitchens();
        onTheWay();
        gift();
        bin();
        thrown();
        spoiled();
        lots();
        since();
        coins();
        count();
    }

    private static void kitchens() {
        Sentence.test(33, "KITCHENS 0 .. 9: a PLACE, an HOUR of the DAY up to which they take (0 .. 23).", () -> {
            DuskShelves x = new DuskShelves();
            for (int i = 0; i <= 9; i++) {
                Check.due("KITCHEN " + i, x.kitchen(0, 0), i);
            }
            Check.due("KITCHEN 10", x.kitchen(0, 0), FULL);
            Check.bounds("kitchen(0, *)", 0, 23, BAD, v -> new DuskShelves().kitchen(0, v));
            DuskShelves y = stocked(0, 0);
            y.kitchen(0, 0);
            y.kitchen(0, 23);
            Check.due("takes at 0", y.gift(0, 0, 0, 1), 1);
            y.hours(1);
            Check.due("not at 1", y.gift(0, 0, 0, 1), NOT);
            y.hours(22);
            Check.due("takes at 23", y.gift(0, 0, 1, 1), 1);
            y.hours(1);
            Check.due("takes at 0 of the next DAY", y.gift(0, 0, 0, 1), 1);
        });
        Sentence.test(33, "A KITCHEN at a place (100 x, and y): its number.", () -> {
            DuskShelves x = stocked(199, 6);
            Check.due("the first", x.kitchen(200, 16), 0);
            Check.due("the second", x.kitchen(200, 15), 1);
            Check.due("100 MILES are 10 HOURS", x.gift(0, 0, 0, 1), 1);
            Check.due("too late for the second", x.gift(0, 0, 1, 1), NOT);
        });
        Sentence.test(33, "BAD, FULL.", () -> {
            Check.bounds("kitchen(*, 0)", 0, 9999, BAD, v -> new DuskShelves().kitchen(v, 0));
            DuskShelves x = new DuskShelves();
            for (int i = 0; i < 9; i++) {
                x.kitchen(0, 0);
            }
            Check.due("the one that fills", x.kitchen(9999, 23), 9);
            Check.due("one more", x.kitchen(9999, 23), FULL);
            Check.due("BAD ahead of FULL: PLACE", x.kitchen(10000, 23), BAD);
            Check.due("BAD ahead of FULL: HOUR", x.kitchen(0, 24), BAD);
            Check.due("there are ten", x.count(6), 10);
        });
    }

    /** A SHOP at a PLACE with 50 pieces of KIND 0 and 50 of KIND 1, which is COLD. */
    private static DuskShelves stocked(int place, int hour) {
        DuskShelves x = new DuskShelves();
        x.shop(place);
        x.kind(10, 4, 7, 0);
        x.kind(10, 4, 9, 1);
        x.hours(24);
        x.batch(0, 7, 0, 50);
        x.batch(0, 107, 0, 50);
        Worlds.until(x, 1, hour);
        return x;
    }

    private static void onTheWay() {
        Sentence.test(34, "GIFT: n pieces of a KIND from a SHOP to a KITCHEN now: on the way MILES / 10 HOURS "
            + "(up);", () -> {
            int[][] due = {{0, 0}, {1, 1}, {9, 1}, {10, 1}, {11, 2}, {20, 2}, {21, 3}, {99, 10}};
            for (int[] d : due) {
                DuskShelves x = stocked(0, 6);
                x.kitchen(d[0], 6 + d[1]);
                Check.due(d[0] + " MILES in " + d[1] + " HOURS", x.gift(0, 0, 0, 1), 1);
                x.kitchen(100 * d[0], 6 + d[1]);
                Check.due(d[0] + " MILES the other way", x.gift(0, 0, 1, 1), 1);
                x.kitchen(d[0], 5 + d[1]);
                Check.due(d[0] + " MILES in an HOUR less", x.gift(0, 0, 2, 1), NOT);
            }
            DuskShelves z = stocked(0, 6);
            z.shop(30);
            z.batch(1, 7, 0, 1);
            z.kitchen(30, 6);
            Check.due("from the SHOP beside it", z.gift(1, 0, 0, 1), 1);
            Check.due("from the SHOP far away", z.gift(0, 0, 0, 1), NOT);
            DuskShelves y = stocked(9999, 0);
            y.kitchen(0, 20);
            y.kitchen(0, 19);
            Check.due("198 MILES in 20 HOURS", y.gift(0, 0, 0, 1), 1);
            Check.due("198 MILES in 19", y.gift(0, 0, 1, 1), NOT);
        });
        Sentence.test(34, "the hour of the DAY and these must not be above its HOUR;", () -> {
            DuskShelves x = stocked(0, 10);
            x.kitchen(20, 12);
            x.kitchen(0, 10);
            x.kitchen(30, 23);
            Check.due("10 and 2 are 12", x.gift(0, 0, 0, 1), 1);
            Check.due("10 and 0 are 10", x.gift(0, 0, 1, 1), 1);
            x.hours(1);
            Check.due("11 and 2 are above 12", x.gift(0, 0, 0, 1), NOT);
            Check.due("11 and 0 are above 10", x.gift(0, 0, 1, 1), NOT);
            Worlds.until(x, 1, 20);
            Check.due("20 and 3 are 23", x.gift(0, 0, 2, 1), 1);
            x.hours(1);
            Check.due("21 and 3 are above 23", x.gift(0, 0, 2, 1), NOT);
        });
        Sentence.test(34, "a COLD KIND must not be more than 2 HOURS on the way.", () -> {
            DuskShelves x = stocked(0, 0);
            x.kitchen(20, 23);
            x.kitchen(21, 23);
            x.kitchen(30, 23);
            Check.due("COLD, 2 HOURS", x.gift(0, 1, 0, 1), 1);
            Check.due("COLD, 21 MILES", x.gift(0, 1, 1, 1), NOT);
            Check.due("COLD, 3 HOURS", x.gift(0, 1, 2, 1), NOT);
            Check.due("not COLD, 2 HOURS", x.gift(0, 0, 0, 1), 1);
            Check.due("not COLD, 3 HOURS", x.gift(0, 0, 2, 1), 1);
        });
        Sentence.test(34, "Then GIVEN, as many as there are that MAY BE GIVEN, n at most.", () -> {
            for (int n = 4; n <= 6; n++) {
                DuskShelves x = stocked(0, 0);
                x.kitchen(0, 23);
                x.batch(0, 8, 1, 5);
                Check.law(x, 1, 0, "a");
                Check.law(x, 0, 0, "0");
                Check.due(n + " of 5 that MAY BE GIVEN", x.gift(0, 0, 0, n), Math.min(5, n));
                Check.due("GIVEN", x.ofBatch(2, 8), Math.min(5, n));
                Check.due("on the shelf", x.shelf(0, 0, 0), 55 - Math.min(5, n));
                Check.due("not of the younger one", x.ofBatch(0, 8), 0);
                Check.due("not of another KIND", x.ofBatch(1, 8), 0);
            }
        });
    }

    private static void gift() {
        Sentence.test(34, "GIFT: how many pieces.", () -> {
            DuskShelves x = stocked(0, 0);
            x.kitchen(0, 0);
            Check.due("one", x.gift(0, 0, 0, 1), 1);
            Check.due("all that are left", x.gift(0, 0, 0, 999), 49);
            Check.due("GIVEN in all", x.count(11), 50);
            Check.due("nothing is paid", x.till(0), 0);
            Check.due("nor THROWN", x.count(12) + x.tossed(1), 0);
        });
        Sentence.test(34, "BAD (n 1 .. 999);", () -> {
            Check.bounds("gift(*, 0, 0, 1)", 0, 0, BAD, v -> giving().gift(v, 0, 0, 1));
            Check.bounds("gift(0, *, 0, 1)", 0, 1, BAD, v -> giving().gift(0, v, 0, 1));
            Check.bounds("gift(0, 0, *, 1)", 0, 1, BAD, v -> giving().gift(0, 0, v, 1));
            Check.bounds("gift(0, 0, 0, *)", 1, 999, BAD, v -> giving().gift(0, 0, 0, v));
            Check.due("no KITCHEN at all", stocked(0, 0).gift(0, 0, 0, 1), BAD);
            DuskShelves x = giving();
            x.hours(24);
            x.kitchen(9999, 0);
            Check.due("too late", x.gift(0, 0, 2, 1), NOT);
            Check.due("BAD ahead of NOT", x.gift(0, 0, 2, 0), BAD);
        });
        Sentence.test(34, "NOT: too late, too long on the way, or there are none.", () -> {
            DuskShelves x = stocked(0, 6);
            x.kitchen(0, 5);
            x.kitchen(0, 6);
            x.kitchen(21, 23);
            x.kitchen(20, 8);
            Check.due("too late", x.gift(0, 0, 0, 1), NOT);
            Check.due("just in time", x.gift(0, 0, 1, 1), 1);
            Check.due("too long", x.gift(0, 1, 2, 1), NOT);
            Check.due("not too long", x.gift(0, 1, 3, 1), 1);
            Check.due("all", x.gift(0, 0, 1, 999), 49);
            Check.due("there are none", x.gift(0, 0, 1, 1), NOT);
            Check.law(x, 1, 0, "0");
            Check.due("none that MAY BE GIVEN", x.gift(0, 1, 3, 1), NOT);
        });
    }

    private static DuskShelves giving() {
        DuskShelves x = stocked(0, 0);
        x.kitchen(0, 23);
        x.kitchen(0, 23);
        return x;
    }

    private static void bin() {
        Sentence.test(35, "n pieces of a BATCH are THROWN (spoiled 1: EARLY SPOILED): how many are on its shelf "
            + "still.", () -> {
            Check.bounds("bin(0, 1, *)", 0, 1, BAD, v -> stocked(0, 0).bin(0, 1, v));
            DuskShelves x = stocked(0, 0);
            Check.due("one", x.bin(0, 1, 0), 49);
            Check.due("SPOILED", x.bin(0, 2, 1), 47);
            Check.due("all that are left", x.bin(0, 47, 0), 0);
            Check.due("THROWN", x.ofBatch(0, 9), 50);
            Check.due("of these SPOILED", x.ofBatch(0, 10), 2);
            Check.due("the other BATCH", x.ofBatch(1, 5), 50);
        });
        Sentence.test(35, "BAD (n 1 .. 999);", () -> {
            Check.bounds("bin(*, 1, 0)", 0, 1, BAD, v -> stocked(0, 0).bin(v, 1, 0));
            Check.bounds("bin(0, *, 0)", 1, 999, BAD, v -> {
                DuskShelves x = Worlds.shops(1);
                x.batch(0, 0, 0, 999);
                return x.bin(0, v, 0);
            });
            Check.bounds("bin(0, *, 1)", 1, 999, BAD, v -> {
                DuskShelves x = Worlds.shops(1);
                x.batch(0, 0, 0, 999);
                return x.bin(0, v, 1);
            });
            Check.due("no BATCH at all", Worlds.shops(1).bin(0, 1, 0), BAD);
            Check.due("BAD ahead of NOT: n", stocked(0, 0).bin(0, 1000, 0), BAD);
            Check.due("BAD ahead of NOT: spoiled", stocked(0, 0).bin(0, 999, 2), BAD);
        });
        Sentence.test(35, "NOT: fewer are there;", () -> {
            for (int spoiled = 0; spoiled <= 1; spoiled++) {
                DuskShelves x = stocked(0, 0);
                Check.due("51 of 50", x.bin(0, 51, spoiled), NOT);
                Check.due("50 are there", x.ofBatch(0, 5), 50);
                Check.due("50 of 50", x.bin(0, 50, spoiled), 0);
                Check.due("1 of 0", x.bin(0, 1, spoiled), NOT);
                Check.due("THROWN", x.ofBatch(0, 9), 50);
            }
        });
        Sentence.test(35, "FULL: 400 such calls, if spoiled.", () -> {
            DuskShelves x = spoils(399);
            Check.due("the one that fills", x.bin(0, 1, 1), 599);
            Check.due("one more", x.bin(0, 1, 1), FULL);
            Check.due("nothing is THROWN", x.ofBatch(0, 5), 599);
            Check.due("nothing is SPOILED", x.ofBatch(0, 10), 400);
            Check.due("GRAMS", x.tossed(0), 4000);
            Check.due("not SPOILED", x.bin(0, 1, 0), 598);
            Check.due("NOT ahead of FULL", x.bin(0, 599, 1), NOT);
            Check.due("BAD ahead of FULL", x.bin(0, 1000, 1), BAD);
            Check.due("BAD ahead of FULL", x.bin(1, 1, 1), BAD);
        });
    }

    /** A BATCH of 999, and so many calls by which a piece of it was EARLY SPOILED. */
    private static DuskShelves spoils(int calls) {
        DuskShelves x = Worlds.shops(1);
        x.batch(0, 0, 0, 999);
        for (int i = 1; i <= calls; i++) {
            Check.due("call " + i, x.bin(0, 1, 1), 999 - i);
        }
        return x;
    }

    private static void thrown() {
        Sentence.test(7, "THROWN: pieces of a BATCH, by a call; and when a DAY begins (STEPS and WARM HOURS are 0 "
            + "first) all on shelves that MAY not BE SOLD then.", () -> {
            DuskShelves x = Worlds.shops(2);
            x.batch(0, 0, 0, 9);
            x.batch(1, 0, 0, 9);
            Check.law(x, 0, 1, "p|n|s");
            x.cut(0, 0, 3);
            x.warm(0, 0, 24);
            x.hours(23);
            Check.due("the HOUR ahead", x.ofBatch(0, 5), 9);
            x.hours(1);
            Check.due("when the DAY begins", x.ofBatch(0, 9), 9);
            Check.due("what MAY BE SOLD stays", x.ofBatch(1, 5), 9);
            x.batch(0, 0, 0, 9);
            x.hours(23);
            Check.due("just when a DAY begins", x.ofBatch(2, 5), 9);
            x.hours(1);
            Check.due("when the next one does", x.ofBatch(2, 9), 9);
            DuskShelves y = Worlds.shops(1);
            y.batch(0, 0, 0, 9);
            y.weather(1, 1);
            Check.law(y, 0, 1, "w&!h&a=1");
            Check.law(y, 1, 0, "0");
            y.hours(24);
            Check.due("with the DAY, hour and WEATHER of then", y.ofBatch(0, 5), 9);
            y.hours(24);
            Check.due("with those of the next DAY", y.ofBatch(0, 9), 9);
            DuskShelves one = Worlds.shops(1);
            one.batch(0, 0, 0, 2);
            one.bin(0, 1, 0);
            Check.law(one, 0, 1, "0");
            one.hours(24);
            Check.due("the last piece of a BATCH", one.ofBatch(0, 5), 0);
            Check.due("its GRAMS", one.tossed(1), 10);
            DuskShelves z = Worlds.shops(1);
            z.batch(0, 0, 0, 9);
            z.bin(0, 4, 0);
            Check.law(z, 0, 3, "0");
            z.hours(240);
            Check.due("each DAY of many begins", z.tossed(3), 50);
            Check.due("without a LAW none is", z.tossed(1) + z.tossed(2), 0);
            Check.due("THROWN by the call and then", z.ofBatch(0, 9), 9);
        });
        Sentence.test(36, "GRAMS THROWN of a DAY: on it.", () -> {
            DuskShelves x = Worlds.shops(1);
            x.kind(1, 1, 9999, 0);
            x.batch(0, 0, 0, 9);
            x.batch(0, 100, 0, 9);
            x.hours(23);
            x.bin(0, 1, 0);
            Check.due("in the last HOUR of DAY 0", x.tossed(0), 10);
            Check.law(x, 0, 1, "k");
            x.hours(1);
            Check.due("when DAY 1 begins", x.tossed(1), 80);
            Check.due("not on DAY 0", x.tossed(0), 10);
            x.bin(1, 2, 1);
            Check.due("EARLY SPOILED as well, of GRAMS 9999", x.tossed(1), 80 + 2 * 9999);
            x.hours(24);
            Check.due("DAY 2", x.tossed(2), 0);
        });
        Sentence.test(36, "GRAMS THROWN on a DAY.", () -> {
            DuskShelves x = new DuskShelves();
            x.shop(0);
            x.kind(1, 1, 9999, 0);
            for (int i = 0; i < 200; i++) {
                x.batch(0, 0, 0, 999);
            }
            Check.law(x, 0, 1, "0");
            x.hours(24);
            Check.due("the most of all", x.tossed(1), 200 * 999 * 9999);
            DuskShelves y = stocked(0, 0);
            Worlds.until(y, 1499, 0);
            y.bin(0, 3, 0);
            Check.due("on the last DAY", y.tossed(1499), 21);
        });
        Sentence.test(36, "BAD.", () ->
            Check.bounds("tossed(*)", 0, 1499, BAD, v -> new DuskShelves().tossed(v)));
    }

    private static void spoiled() {
        Sentence.test(35, "EARLY SPOILED: pieces that are THROWN as such (at most 400 such calls).", () -> {
            DuskShelves x = spoils(400);
            Check.due("400 calls", x.ofBatch(0, 10), 400);
            Check.due("all of them are known", x.isBad(0, 0, 0), 1);
            Check.due("call 401", x.bin(0, 1, 1), FULL);
            DuskShelves y = Worlds.shops(1);
            y.batch(0, 0, 0, 999);
            for (int i = 0; i < 401; i++) {
                y.bin(0, 1, 0);
            }
            Check.due("other calls are not counted", y.bin(0, 1, 1), 597);
            Check.due("EARLY SPOILED", y.ofBatch(0, 10), 1);
            Check.due("THROWN", y.ofBatch(0, 9), 402);
        });
    }

    /** A LOT of which so many came and so many were EARLY SPOILED on DAY 0. */
    private static int badOf(int came, int spoiled) {
        DuskShelves x = Worlds.shops(1);
        x.kind(1, 1, 1, 0);
        x.batch(0, 199, 0, came);
        x.bin(0, spoiled, 1);
        return x.isBad(1, 99, 0);
    }

    private static void lots() {
        Sentence.test(37, "A LOT of a KIND is BAD AS KNOWN on DAY k: of all pieces of its first BATCHES that came by "
            + "then (FROM none) more than a 10th, and 3 at least, were EARLY SPOILED by then (in whatever "
            + "SHOP);", () -> {
            int[][] due = {{1, 1, 0}, {2, 2, 0}, {3, 3, 1}, {9, 2, 0}, {9, 3, 1}, {29, 3, 1}, {30, 3, 0}, {31, 3, 0},
                {39, 4, 1}, {40, 4, 0}, {40, 5, 1}, {990, 99, 0}, {990, 100, 1}, {989, 99, 1},
                {999, 99, 0}, {999, 100, 1}};
            for (int[] d : due) {
                Check.due(d[1] + " of " + d[0], badOf(d[0], d[1]), d[2]);
            }
            DuskShelves x = Worlds.shops(2, 1, 0);
            x.batch(0, 0, 0, 25);
            x.batch(1, 0, 1, 4);
            x.move(0, 1, 0, 20);
            x.bin(0, 1, 1);
            x.bin(1, 1, 1);
            x.bin(2, 1, 0);
            Check.due("2 SPOILED of 29, one more THROWN", x.isBad(0, 0, 1), 0);
            x.bin(2, 1, 1);
            Check.due("3 in three BATCHES of 29: MOVED ones come once", x.isBad(0, 0, 1), 1);
            Check.due("not on the DAY ahead", x.isBad(0, 0, 0), 0);
            x.hours(24);
            x.batch(0, 0, 1, 1);
            Check.due("3 of 30 on the DAY behind", x.isBad(0, 0, 2), 0);
            Check.due("3 of 29 as known ahead: the last one was MADE by then, but had not come", x.isBad(0, 0, 1), 1);
            x.bin(2, 1, 1);
            Check.due("4 of 30", x.isBad(0, 0, 2), 1);
            Check.due("as known ever on", x.isBad(0, 0, 1499), 1);
        });
        Sentence.test(37, "1 if a LOT of a KIND is BAD AS KNOWN on DAY k, else 0.", () -> {
            DuskShelves x = Worlds.shops(1);
            x.kind(1, 1, 1, 0);
            x.batch(0, 99, 0, 9);
            x.batch(0, 100, 0, 9);
            x.batch(0, 199, 0, 9);
            x.batch(0, 0, 0, 9);
            x.bin(0, 3, 1);
            x.bin(1, 3, 1);
            int[][] due = {{0, 99, 1}, {1, 0, 1}, {1, 99, 0}, {0, 0, 0}, {0, 98, 0}};
            for (int[] d : due) {
                Check.due("KIND " + d[0] + " LOT " + d[1], x.isBad(d[0], d[1], 0), d[2]);
            }
        });
        Sentence.test(37, "BAD.", () -> {
            Check.bounds("isBad(*, 0, 0)", 0, 0, BAD, v -> Worlds.shops(1).isBad(v, 0, 0));
            Check.bounds("isBad(0, *, 0)", 0, 99, BAD, v -> Worlds.shops(1).isBad(0, v, 0));
            Check.bounds("isBad(0, 0, *)", 0, 1499, BAD, v -> Worlds.shops(1).isBad(0, 0, v));
        });
    }

    private static void since() {
        Sentence.test(38, "SINCE: the first such DAY.", () -> {
            DuskShelves x = Worlds.shops(1, 3, 0);
            x.batch(0, 0, 0, 20);
            x.bin(0, 2, 1);
            Check.due("two are too few", x.since(0, 0), NOT);
            x.hours(47);
            x.bin(0, 1, 1);
            Check.due("three, on DAY 4", x.since(0, 0), 4);
            x.hours(1);
            x.bin(0, 9, 1);
            Check.due("more of them later", x.since(0, 0), 4);
            x.batch(0, 0, 0, 999);
            Check.due("no more BAD now", x.isBad(0, 0, 5), 0);
            Check.due("the first such DAY all the same", x.since(0, 0), 4);
            DuskShelves y = Worlds.shops(1, 3, 0);
            y.batch(0, 0, 0, 9);
            y.bin(0, 3, 1);
            Check.due("BAD on DAY 3", y.since(0, 0), 3);
            y.batch(0, 0, 0, 999);
            Check.due("not with all that came on DAY 3", y.since(0, 0), NOT);
        });
        Sentence.test(38, "SINCE which DAY;", () -> {
            DuskShelves x = Worlds.shops(1);
            x.kind(1, 1, 1, 0);
            x.batch(0, 99, 0, 9);
            x.batch(0, 100, 0, 9);
            x.bin(0, 3, 1);
            Worlds.until(x, 1499, 23);
            x.bin(1, 3, 1);
            Check.due("the first DAY of all", x.since(0, 99), 0);
            Check.due("the last DAY of all", x.since(1, 0), 1499);
        });
        Sentence.test(38, "NOT.", () -> {
            DuskShelves x = Worlds.shops(1);
            Check.due("nothing came", x.since(0, 0), NOT);
            x.batch(0, 0, 0, 30);
            Check.due("nothing SPOILED", x.since(0, 0), NOT);
            x.bin(0, 3, 1);
            Check.due("just a 10th", x.since(0, 0), NOT);
            x.bin(0, 1, 1);
            Check.due("more", x.since(0, 0), 0);
            Check.due("another LOT", x.since(0, 1), NOT);
        });
        Sentence.test(38, "BAD.", () -> {
            Check.bounds("since(*, 0)", 0, 0, BAD, v -> Worlds.shops(1).since(v, 0));
            Check.bounds("since(0, *)", 0, 99, BAD, v -> Worlds.shops(1).since(0, v));
        });
    }

    private static void coins() {
        Sentence.test(39, "COINS: TILL of a SHOP; what ORDERS cost is kept apart.", () -> {
            DuskShelves x = Worlds.shops(2, 0, 6);
            x.batch(0, 0, 0, 9);
            Check.due("an order is not paid out of it", x.till(0), 0);
            x.buy(0, 0, 2);
            Check.due("TILL", x.till(0), 200);
            Check.due("what ORDERS cost", x.count(8), 9 * 40);
            x.throwing(0, 5);
            x.bin(0, 2, 0);
            Check.due("nor is what is THROWN", x.till(0), 200);
            Check.due("the other SHOP", x.till(1), 0);
        });
        Sentence.test(39, "TILL of a SHOP.", () -> {
            DuskShelves x = Worlds.shops(2, 0, 6);
            x.batch(0, 0, 0, 9);
            x.batch(1, 0, 0, 9);
            x.buy(0, 0, 0);
            x.buy(1, 0, 3);
            Check.due("0 of none", x.till(0), 0);
            Check.due("of three", x.till(1), 300);
        });
        Sentence.test(39, "BAD.", () -> {
            Check.bounds("till(*)", 0, 11, BAD, v -> Worlds.shops(12).till(v));
            Check.due("no SHOP at all", new DuskShelves().till(0), BAD);
        });
    }

    private static void count() {
        Sentence.test(40, "How many: 0 SHOPS, 1 KINDS, 2 BATCHES, 3 ROWS, 4 LAWS, 5 HOUR, 6 KITCHENS, 7 bytes on THE "
            + "TAPE, 8 what ORDERS cost, 9 pieces on all shelves, 10 SOLD, 11 GIVEN, 12 THROWN, 13 LACK in "
            + "all.", () -> {
            DuskShelves x = Worlds.shops(5, 0, 6);
            x.kind(1, 1, 1, 0);
            x.kitchen(0, 23);
            x.kitchen(0, 23);
            x.kitchen(0, 23);
            x.batch(0, 0, 0, 100);
            x.batch(1, 100, 0, 50);
            x.move(0, 1, 0, 20);
            x.buy(0, 0, 30);
            x.buy(1, 1, 57);
            x.buy(2, 1, 8);
            x.buy(3, 1, 0);
            x.gift(0, 0, 0, 11);
            x.bin(0, 12, 0);
            x.bin(2, 1, 1);
            Check.law(x, 0, 0, "1");
            Check.law(x, 0, 0, "1+");
            Check.law(x, 1, 0, "1");
            Check.tape(x, "1+1+1");
            int[] due = {5, 2, 3, 4, 2, 6, 3, 5, 4050, 46, 80, 11, 13, 15};
            for (int what = 0; what <= 13; what++) {
                Check.due("what " + what, x.count(what), due[what]);
            }
        });
        Sentence.test(40, "BAD.", () ->
            Check.bounds("count(*)", 0, 13, BAD, v -> new DuskShelves().count(v)));
    }
}
