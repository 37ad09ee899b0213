/** Promises 11 to 13, sentence by sentence. */
final class BatchEdges {
    private static final int BAD = DuskShelves.BAD, NOT = DuskShelves.NOT, FULL = DuskShelves.FULL;
    private static final int VOID = DuskShelves.VOID;
    private static final int SHELF = 5, SOLD = 6, MOVED = 7, GIVEN = 8, THROWN = 9, SPOILED = 10, FROM = 11, FIRST = 12;

    private BatchEdges() {
    }

    static void all() {
        batches();
        pieces();
        eldest();
        batch();
        ofBatch();
        shelf();
        mayBe();
    }

    private static void due(DuskShelves x, int batch, int column, int want) {
        Check.due("ofBatch(" + batch + ", " + column + ")", x.ofBatch(batch, column), want);
    }

    private static void batches() {
        Sentence.test(11, "BATCHES 0 .. 199, as they came: a SHOP, a KIND, a LOT (0 .. 99), the DAY when it was MADE "
            + "(that, or ahead), pieces (1 .. 999).", () -> {
            DuskShelves x = Worlds.shops(1, 1, 0);
            for (int i = 0; i <= 199; i++) {
                Check.due("BATCH " + i, x.batch(0, 99 * (i % 2), i % 2, i % 2 == 0 ? 1 : 999), i);
            }
            Check.due("BATCH 200", x.batch(0, 0, 0, 1), FULL);
            Check.due("there are 200", x.count(2), 200);
            due(x, 198, 2, 0);
            due(x, 199, 2, 99);
            due(x, 198, 3, 1);
            due(x, 199, 3, 0);
            due(x, 198, 4, 1);
            due(x, 199, 4, 999);
            Check.due("LOT 100 is the next KIND's LOT 0", x.batch(0, 100, 0, 1), BAD);
            Check.due("MADE tomorrow", x.batch(0, 0, -1, 1), BAD);
            Check.bounds("batch(0, 0, 0, *)", 1, 999, BAD, v -> Worlds.shops(1).batch(0, 0, 0, v));
        });
    }

    private static void pieces() {
        Sentence.test(12, "Each piece of it is on the shelf, SOLD, MOVED (to another SHOP: there it is a BATCH of its "
            + "own, FROM this one, with the same LOT and DAY), GIVEN, or THROWN.", () -> {
            DuskShelves x = Worlds.shops(2, 0, 6);
            x.kitchen(0, 23);
            x.batch(0, 42, 0, 5);
            x.buy(0, 0, 1);
            x.move(0, 1, 0, 1);
            x.gift(0, 0, 0, 1);
            x.bin(0, 1, 0);
            for (int column = SHELF; column <= THROWN; column++) {
                due(x, 0, column, 1);
            }
            due(x, 0, 4, 5);
            x.bin(0, 1, 1);
            due(x, 0, SHELF, 0);
            Check.due("none is left to be thrown", x.bin(0, 1, 0), NOT);
            x.hours(1);
            Check.due("nor to be SOLD", x.buy(0, 0, 1), 0);
            Check.due("nor to be MOVED", x.move(0, 1, 0, 1), NOT);
            Check.due("nor to be GIVEN", x.gift(0, 0, 0, 1), NOT);
            int[] there = {1, 0, 42, 0, 1, 1, 0, 0, 0, 0, 0, 0, 0};
            for (int column = 0; column <= FIRST; column++) {
                due(x, 1, column, there[column]);
            }
        });
        Sentence.test(12, "A BATCH that is MOVED twice is led back to its first one.", () -> {
            DuskShelves x = Worlds.shops(3);
            x.batch(0, 1, 0, 9);
            x.batch(0, 2, 0, 9);
            due(x, 1, FROM, -1);
            due(x, 1, FIRST, 1);
            x.bin(0, 9, 0);
            x.move(0, 1, 0, 3);
            due(x, 2, FROM, 1);
            due(x, 2, FIRST, 1);
            x.move(1, 2, 0, 2);
            due(x, 3, FROM, 2);
            due(x, 3, FIRST, 1);
            x.move(2, 0, 0, 1);
            due(x, 4, 0, 0);
            due(x, 4, FROM, 3);
            due(x, 4, FIRST, 1);
            due(x, 4, 2, 2);
        });
    }

    /** On DAY 1, in SHOP 0: BATCHES 0 and 1 made today, 2 and 3 a DAY ago, two pieces each. */
    private static DuskShelves young() {
        DuskShelves x = Worlds.shops(2, 1, 6);
        x.kitchen(0, 23);
        for (int i = 0; i < 4; i++) {
            x.batch(0, i, i / 2, 2);
        }
        return x;
    }

    private static void taken(String how, DuskShelves x, int column, int... due) {
        for (int i = 0; i < due.length; i++) {
            Check.due(how + " of BATCH " + i, x.ofBatch(i, column), due[i]);
        }
    }

    private static void eldest() {
        Sentence.test(19, "What is bought, moved or given of a SHOP and KIND goes eldest first: by MADE, then by "
            + "BATCH.",
            () -> {
                int[][] due = {{0, 0, 1, 0}, {0, 0, 2, 0}, {0, 0, 2, 1}, {0, 0, 2, 2}, {1, 0, 2, 2}, {2, 0, 2, 2},
                    {2, 1, 2, 2}, {2, 2, 2, 2}, {2, 2, 2, 2}};
                for (int n = 1; n <= 9; n++) {
                    DuskShelves x = young();
                    Check.due("bought", x.buy(0, 0, n), Math.min(8, n));
                    taken(n + " bought", x, SOLD, due[n - 1]);
                    DuskShelves y = young();
                    Check.due("moved", y.move(0, 1, 0, n), Math.min(8, n));
                    taken(n + " moved", y, MOVED, due[n - 1]);
                    DuskShelves z = young();
                    Check.due("given", z.gift(0, 0, 0, n), Math.min(8, n));
                    taken(n + " given", z, GIVEN, due[n - 1]);
                }
            });
        Sentence.test(19, "goes eldest first: by MADE, then by BATCH.", () -> {
            DuskShelves x = Worlds.shops(2);
            x.batch(0, 1, 0, 1);
            Worlds.until(x, 1, 6);
            x.batch(1, 2, 0, 1);
            x.batch(1, 3, 0, 1);
            Check.due("an elder BATCH comes from another SHOP", x.move(0, 1, 0, 1), 1);
            Check.due("bought", x.buy(1, 0, 2), 2);
            taken("SOLD", x, SOLD, 0, 1, 0, 1);
        });
    }

    private static void batch() {
        Sentence.test(11, "A BATCH of an order comes: its number.", () -> {
            DuskShelves x = Worlds.shops(2);
            Check.due("the first", x.batch(0, 0, 0, 2), 0);
            x.move(0, 1, 0, 1);
            Check.due("behind one that was MOVED", x.batch(1, 0, 0, 2), 2);
            due(x, 2, 0, 1);
            due(x, 2, FROM, -1);
        });
        Sentence.test(11, "what: 100 times the KIND, and the LOT;", () -> {
            DuskShelves x = Worlds.shops(1);
            Check.due("LOT 99", x.batch(0, 99, 0, 1), 0);
            Check.due("no KIND 1 yet", x.batch(0, 100, 0, 1), BAD);
            for (int i = 1; i <= 9; i++) {
                x.kind(1, 1, 1, 0);
            }
            Check.due("LOT 99 of KIND 9", x.batch(0, 999, 0, 1), 1);
            Check.due("LOT 0 of KIND 9", x.batch(0, 900, 0, 1), 2);
            Check.due("LOT 99 of KIND 8", x.batch(0, 899, 0, 1), 3);
            Check.due("no KIND 10", x.batch(0, 1000, 0, 1), BAD);
            Check.due("below", x.batch(0, -1, 0, 1), BAD);
            Check.due("far below", x.batch(0, -99, 0, 1), BAD);
            int[][] due = {{0, 99}, {9, 99}, {9, 0}, {8, 99}};
            for (int b = 0; b < 4; b++) {
                due(x, b, 1, due[b][0]);
                due(x, b, 2, due[b][1]);
            }
        });
        Sentence.test(11, "made: DAYS ago (0 .. 9, not ahead of DAY 0).", () -> {
            for (int day = 0; day <= 11; day++) {
                DuskShelves x = Worlds.shops(1, day, 0);
                int most = Math.min(9, day);
                Check.due("TODAY, on DAY " + day, x.batch(0, 0, 0, 1), 0);
                Check.due(most + " DAYS ago, on DAY " + day, x.batch(0, 0, most, 1), 1);
                Check.due(most + 1 + " DAYS ago, on DAY " + day, x.batch(0, 0, most + 1, 1), BAD);
                Check.due("tomorrow, on DAY " + day, x.batch(0, 0, -1, 1), BAD);
                due(x, 0, 3, day);
                due(x, 1, 3, day - most);
            }
            Check.bounds("batch(0, 0, *, 1)", 0, 9, BAD, v -> Worlds.shops(1, 20, 0).batch(0, 0, v, 1));
        });
        Sentence.test(11, "BAD, FULL.", () -> {
            Check.bounds("batch(*, 0, 0, 1)", 0, 1, BAD, v -> Worlds.shops(2).batch(v, 0, 0, 1));
            Check.bounds("batch(0, *, 0, 1)", 0, 99, BAD, v -> Worlds.shops(2).batch(0, v, 0, 1));
            Check.bounds("batch(0, 0, *, 1)", 0, 0, BAD, v -> Worlds.shops(2).batch(0, 0, v, 1));
            Check.bounds("batch(0, 0, 0, *)", 1, 999, BAD, v -> Worlds.shops(2).batch(0, 0, 0, v));
            DuskShelves x = Worlds.shops(2);
            for (int i = 0; i < 198; i++) {
                x.batch(0, 0, 0, 2);
            }
            Check.due("MOVED ones are BATCHES", x.move(0, 1, 0, 1), 1);
            Check.due("the one that fills", x.batch(0, 0, 0, 1), 199);
            Check.due("one more", x.batch(0, 0, 0, 1), FULL);
            Check.due("BAD ahead of FULL: SHOP", x.batch(2, 0, 0, 1), BAD);
            Check.due("BAD ahead of FULL: KIND", x.batch(0, 100, 0, 1), BAD);
            Check.due("BAD ahead of FULL: MADE", x.batch(0, 0, 1, 1), BAD);
            Check.due("BAD ahead of FULL: pieces", x.batch(0, 0, 0, 1000), BAD);
            Check.due("nothing came", x.count(9), 2 * 198 + 1);
        });
        Sentence.test(11, "(pieces times COST are counted.)", () -> {
            DuskShelves x = new DuskShelves();
            x.shop(0);
            x.shop(0);
            x.kind(1, 0, 1, 0);
            x.kind(1, 9999, 1, 0);
            x.batch(0, 0, 0, 999);
            Check.due("COST 0", x.count(8), 0);
            x.batch(0, 100, 0, 1);
            Check.due("COST 9999", x.count(8), 9999);
            x.move(0, 1, 1, 1);
            Check.due("MOVED is not ordered", x.count(8), 9999);
            for (int i = 3; i < 200; i++) {
                x.batch(0, 100, 0, 999);
            }
            Check.due("of all BATCHES", x.count(8), 9999 + 197 * 999 * 9999);
            x.batch(0, 100, 0, 999);
            Check.due("a refused one costs nothing", x.count(8), 9999 + 197 * 999 * 9999);
        });
    }

    private static void ofBatch() {
        Sentence.test(12, "Of a BATCH: 0 SHOP, 1 KIND, 2 LOT, 3 the DAY when it was MADE, 4 pieces, 5 on the shelf, 6 "
            + "SOLD, 7 MOVED, 8 GIVEN, 9 THROWN, 10 of these EARLY SPOILED, 11 FROM (-1), 12 the first one.", () -> {
            DuskShelves x = Worlds.shops(3, 3, 6);
            x.kind(10, 1, 1, 0);
            x.kitchen(0, 23);
            x.batch(0, 0, 0, 1);
            x.batch(1, 177, 2, 100);
            x.buy(1, 1, 20);
            x.move(1, 2, 1, 30);
            x.gift(1, 1, 0, 5);
            x.bin(1, 7, 0);
            x.bin(1, 4, 1);
            int[][] due = {{0, 0, 0, 3, 1, 1, 0, 0, 0, 0, 0, -1, 0}, {1, 1, 77, 1, 100, 34, 20, 30, 5, 11, 4, -1, 1},
                {2, 1, 77, 1, 30, 30, 0, 0, 0, 0, 0, 1, 1}};
            for (int b = 0; b < 3; b++) {
                for (int column = 0; column <= FIRST; column++) {
                    due(x, b, column, due[b][column]);
                }
            }
        });
        Sentence.test(12, "10 of these EARLY SPOILED,", () -> {
            DuskShelves x = Worlds.shops(1);
            x.batch(0, 0, 0, 9);
            x.bin(0, 8, 0);
            due(x, 0, SPOILED, 0);
            x.bin(0, 1, 1);
            due(x, 0, SPOILED, 1);
            due(x, 0, THROWN, 9);
        });
        Sentence.test(12, "VOID: BAD.", () -> {
            Check.bounds("ofBatch(*, 0)", 0, 1, VOID, v -> two().ofBatch(v, 0));
            Check.bounds("ofBatch(0, *)", 0, 12, VOID, v -> two().ofBatch(0, v));
            Check.due("no BATCH at all", Worlds.shops(1).ofBatch(0, 0), VOID);
        });
    }

    private static DuskShelves two() {
        DuskShelves x = Worlds.shops(1);
        x.batch(0, 0, 0, 1);
        x.batch(0, 0, 0, 1);
        return x;
    }

    private static void shelf() {
        Sentence.test(13, "What is on the shelf of a SHOP's KIND (what 0), MAY BE SOLD (1), MAY BE GIVEN "
            + "(2).", () -> {
            DuskShelves x = Worlds.shops(2);
            x.kind(1, 1, 1, 0);
            for (int what = 0; what <= 2; what++) {
                Check.due("an empty shelf, what " + what, x.shelf(0, 0, what), 0);
            }
            x.batch(0, 0, 0, 1);
            x.batch(1, 0, 0, 10);
            x.batch(0, 100, 0, 100);
            Worlds.until(x, 1, 0);
            x.batch(0, 0, 0, 999);
            Check.law(x, 0, 0, "a");
            Check.law(x, 1, 0, "!a");
            Check.due("all", x.shelf(0, 0, 0), 1000);
            Check.due("MAY BE SOLD", x.shelf(0, 0, 1), 1);
            Check.due("MAY BE GIVEN", x.shelf(0, 0, 2), 999);
            Check.due("of the other SHOP", x.shelf(1, 0, 0), 10);
            Check.due("of the other KIND", x.shelf(0, 1, 0), 100);
            x.bin(0, 1, 0);
            Check.due("without the last piece of a BATCH", x.shelf(0, 0, 1), 0);
            x.bin(3, 99, 0);
            Check.due("all of what is there still", x.shelf(0, 0, 0), 900);
            Check.due("MAY BE GIVEN of what is there still", x.shelf(0, 0, 2), 900);
            x.bin(1, 4, 0);
            x.hours(24);
            Check.due("MAY BE SOLD of what is there still", x.shelf(1, 0, 1), 6);
        });
        Sentence.test(13, "BAD.", () -> {
            Check.bounds("shelf(*, 0, 0)", 0, 1, BAD, v -> Worlds.shops(2).shelf(v, 0, 0));
            Check.bounds("shelf(0, *, 0)", 0, 0, BAD, v -> Worlds.shops(2).shelf(0, v, 0));
            Check.bounds("shelf(0, 0, *)", 0, 2, BAD, v -> Worlds.shops(2).shelf(0, 0, v));
        });
    }

    /** The shelf of SHOP 0 on DAY 1 with a LAW of a USE that holds from a DAY on. */
    private static int shelfBy(int use, int from, String text, int what) {
        DuskShelves x = Worlds.shops(1, 1, 6);
        x.batch(0, 0, 0, 7);
        Check.due("LAW " + text, Check.law(x, use, from, text), 0);
        return x.shelf(0, 0, what);
    }

    private static void mayBe() {
        Sentence.test(13, "MAY BE SOLD: a piece of a BATCH of which SELL in force TODAY AS KNOWN TODAY is not "
            + "0;", () -> {
            Check.due("0", shelfBy(0, 0, "0", 1), 0);
            Check.due("1", shelfBy(0, 0, "1", 1), 7);
            Check.due("2", shelfBy(0, 0, "2", 1), 7);
            Check.due("-1", shelfBy(0, 0, "0-1", 1), 7);
            Check.due("from TODAY on", shelfBy(0, 1, "0", 1), 0);
            Check.due("from tomorrow on", shelfBy(0, 2, "0", 1), 7);
            Check.due("a LAW of GIVE", shelfBy(1, 0, "0", 1), 7);
            DuskShelves x = Worlds.shops(1, 0, 23);
            x.batch(0, 0, 0, 7);
            Check.law(x, 0, 1, "0");
            Check.due("an HOUR ahead of the DAY", x.shelf(0, 0, 1), 7);
            x.hours(1);
            Check.due("when the DAY begins", x.shelf(0, 0, 1), 0);
        });
        Sentence.test(13, "MAY BE GIVEN: likewise by GIVE (by that alone).", () -> {
            Check.due("0", shelfBy(1, 0, "0", 2), 0);
            Check.due("1", shelfBy(1, 0, "1", 2), 7);
            Check.due("-1", shelfBy(1, 0, "0-1", 2), 7);
            Check.due("from TODAY on", shelfBy(1, 1, "0", 2), 0);
            Check.due("from tomorrow on", shelfBy(1, 2, "0", 2), 7);
            Check.due("a LAW of SELL", shelfBy(0, 0, "0", 2), 7);
        });
        Sentence.test(19, "Just what MAY BE SOLD is bought or moved, just what MAY BE GIVEN is given; all else is on "
            + "the shelf till it is THROWN.", () -> {
            DuskShelves x = Worlds.shops(2, 2, 6);
            x.kitchen(0, 23);
            for (int made = 0; made < 3; made++) {
                x.batch(0, made, made, 10);
            }
            Check.law(x, 0, 0, "a=1");
            Check.law(x, 1, 0, "a=2");
            Check.due("bought", x.buy(0, 0, 4), 4);
            Check.due("moved", x.move(0, 1, 0, 999), 6);
            Check.due("no more of what MAY BE SOLD", x.move(0, 1, 0, 999), NOT);
            Check.due("given", x.gift(0, 0, 0, 999), 10);
            Check.due("no more of what MAY BE GIVEN", x.gift(0, 0, 0, 999), NOT);
            due(x, 1, SOLD, 4);
            due(x, 1, MOVED, 6);
            due(x, 2, GIVEN, 10);
            due(x, 0, SHELF, 10);
            x.hours(17);
            due(x, 0, SHELF, 10);
            Check.law(x, 0, 0, "0");
            due(x, 0, SHELF, 10);
            x.hours(1);
            due(x, 0, SHELF, 0);
            due(x, 0, THROWN, 10);
        });
    }
}
