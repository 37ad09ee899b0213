/** Promises 30 to 32, sentence by sentence. */
final class WaitingEdges {
    private static final int BAD = DuskShelves.BAD, VOID = DuskShelves.VOID;
    private static final int NOT = -1999999999, BIG = -1999999998, DRAWN_BAD = -2;

    private WaitingEdges() {
    }

    static void all() {
        drawn();
        early();
        gap();
        doubt();
        refused();
    }

    /** So much is asked for in each SHOP at 6 on DAY 0. */
    private static DuskShelves asked(int... n) {
        DuskShelves x = Worlds.shops(n.length, 0, 6);
        for (int s = 0; s < n.length; s++) {
            x.buy(s, 0, n[s]);
        }
        return x;
    }

    private static DuskShelves draw(DuskShelves x, int... is) {
        for (int s = 0; s < is.length; s++) {
            x.drawn(s, is[s]);
        }
        return x;
    }

    private static int gapOf(DuskShelves x) {
        return x.waiting(0, 0, 1499, 0);
    }

    private static int doubtOf(DuskShelves x) {
        return x.waiting(0, 0, 1499, 1);
    }

    private static void drawn() {
        Sentence.test(30, "WAITING: SHOPS are drawn: some CUT early (told 1), others not (0), or none (-1; at "
            + "first).", () -> {
            DuskShelves x = asked(5, 9, 100);
            for (int s = 0; s < 3; s++) {
                Check.due("at first", x.drawn(s, -1), -1);
            }
            draw(x, 1, 0);
            Check.due("9 less 5, without the third", gapOf(x), 400);
            draw(x, 0, 1);
            Check.due("5 less 9", gapOf(x), -400);
            draw(x, 0, 1, 0);
            Check.due("52.5 less 9", gapOf(x), 4350);
            draw(x, -1, 1, 0);
            Check.due("100 less 9", gapOf(x), 9100);
        });
        Sentence.test(30, "A SHOP is drawn: CUT (1), not (0), or none (-1): what it was.", () -> {
            Check.bounds("drawn(0, *)", -1, 1, DRAWN_BAD, v -> Worlds.shops(1).drawn(0, v));
            DuskShelves x = Worlds.shops(2);
            Check.due("none", x.drawn(0, 1), -1);
            Check.due("CUT", x.drawn(0, 0), 1);
            Check.due("not", x.drawn(0, -1), 0);
            Check.due("none again", x.drawn(0, 1), -1);
            Check.due("the other", x.drawn(1, 1), -1);
        });
        Sentence.test(30, "-2: BAD.", () -> {
            Check.bounds("drawn(*, 1)", 0, 11, DRAWN_BAD, v -> Worlds.shops(12).drawn(v, 1));
            DuskShelves x = Worlds.shops(1);
            x.drawn(0, 1);
            Check.due("is 2", x.drawn(0, 2), DRAWN_BAD);
            Check.due("is -2", x.drawn(0, -2), DRAWN_BAD);
            Check.due("a refused one is not taken", x.drawn(0, 0), 1);
        });
    }

    private static void early() {
        Sentence.test(31, "For a KIND: EARLY of a SHOP: the sum of what was asked in ROWS of hours 6 to 13 on DAYS "
            + "from a to b.", () -> {
            DuskShelves x = Worlds.shops(2, 2, 0);
            x.kind(1, 1, 1, 0);
            x.batch(0, 0, 0, 1);
            x.cut(0, 0, 1);
            x.weather(2, 1);
            Worlds.ask(x, 0, 2, 6, 1);
            Check.due("6 is early", x.early(0, 0, 0, 9), 1);
            Worlds.ask(x, 0, 2, 13, 10);
            Check.due("13 is early", x.early(0, 0, 0, 9), 11);
            Worlds.ask(x, 0, 2, 14, 100);
            Worlds.ask(x, 0, 2, 19, 100);
            Check.due("14 is not", x.early(0, 0, 0, 9), 11);
            Worlds.ask(x, 0, 3, 7, 400);
            int[][] due = {{0, 1, 0}, {0, 2, 11}, {1, 2, 11}, {2, 2, 11}, {2, 3, 411}, {3, 3, 400}, {3, 4, 400},
                {4, 4, 0}, {0, 1499, 411}};
            for (int[] d : due) {
                Check.due("from " + d[0] + " to " + d[1], x.early(0, 0, d[0], d[1]), d[2]);
            }
            Check.due("another SHOP", x.early(1, 0, 0, 9), 0);
            Check.due("another KIND", x.early(0, 1, 0, 9), 0);
        });
        Sentence.test(31, "EARLY of a SHOP for a KIND on DAYS a to b.", () -> {
            DuskShelves x = Worlds.shops(2);
            x.kind(1, 1, 1, 0);
            Check.due("without ROWS", x.early(0, 0, 0, 1499), 0);
            x.hours(6);
            x.buy(0, 0, 1);
            x.buy(0, 1, 20);
            x.buy(1, 0, 300);
            x.buy(1, 1, 900);
            Check.due("SHOP 0, KIND 0", x.early(0, 0, 0, 0), 1);
            Check.due("SHOP 0, KIND 1", x.early(0, 1, 0, 0), 20);
            Check.due("SHOP 1, KIND 0", x.early(1, 0, 0, 0), 300);
            Check.due("SHOP 1, KIND 1", x.early(1, 1, 0, 0), 900);
        });
        Sentence.test(31, "BAD.", () -> {
            Check.bounds("early(*, 0, 0, 0)", 0, 1, BAD, v -> Worlds.shops(2).early(v, 0, 0, 0));
            Check.bounds("early(0, *, 0, 0)", 0, 0, BAD, v -> Worlds.shops(2).early(0, v, 0, 0));
            Check.bounds("early(0, 0, *, 1499)", 0, 1499, BAD, v -> Worlds.shops(2).early(0, 0, v, 1499));
            Check.bounds("early(0, 0, 0, *)", 0, 1499, BAD, v -> Worlds.shops(2).early(0, 0, 0, v));
            Check.due("from 5 to 5", Worlds.shops(1).early(0, 0, 5, 5), 0);
            Check.due("from 5 to 4", Worlds.shops(1).early(0, 0, 5, 4), BAD);
        });
    }

    private static void gap() {
        Sentence.test(32, "GAP: the mean of EARLY of those not CUT less that of CUT ones (told: times 100, toward "
            + "0).", () -> {
            Check.due("a third", gapOf(draw(asked(0, 0, 0, 1), 1, 0, 0, 0)), 33);
            Check.due("two thirds", gapOf(draw(asked(0, 0, 1, 1), 1, 0, 0, 0)), 66);
            Check.due("a third less", gapOf(draw(asked(0, 0, 0, 1), 0, 1, 1, 1)), -33);
            Check.due("two thirds less", gapOf(draw(asked(0, 0, 1, 1), 0, 1, 1, 1)), -66);
            Check.due("a whole", gapOf(draw(asked(0, 1), 1, 0)), 100);
            Check.due("none", gapOf(draw(asked(4, 4), 1, 0)), 0);
            Check.due("a half less a third", gapOf(draw(asked(0, 0, 1, 0, 1), 1, 1, 1, 0, 0)), 16);
            Check.due("a third less a half", gapOf(draw(asked(0, 1, 0, 0, 1), 1, 1, 0, 0, 0)), -16);
            Check.due("two means", gapOf(draw(asked(1, 2, 4, 4, 5), 1, 1, 0, 0, 0)), 283);
            Check.due("the most", gapOf(draw(asked(0, 999), 1, 0)), 99900);
            Check.due("the least", gapOf(draw(asked(999, 0), 1, 0)), -99900);
        });
        Sentence.test(32, "GAP (what 0), DOUBT (1) for a KIND on DAYS a to b.", () -> {
            DuskShelves x = draw(asked(1, 4), 1, 0);
            x.kind(1, 1, 1, 0);
            x.buy(0, 1, 50);
            Worlds.ask(x, 0, 1, 6, 9);
            Check.due("GAP of DAY 0", x.waiting(0, 0, 0, 0), 300);
            Check.due("GAP of DAY 1", x.waiting(0, 1, 1, 0), -900);
            Check.due("GAP of both", x.waiting(0, 0, 1, 0), -600);
            Check.due("DOUBT of DAY 0", x.waiting(0, 0, 0, 1), 5000);
            Check.due("DOUBT of DAY 1", x.waiting(0, 1, 1, 1), 10000);
            Check.due("GAP of the other KIND", x.waiting(1, 0, 1, 0), -5000);
            Check.due("GAP without ROWS", x.waiting(0, 2, 9, 0), 0);
        });
    }

    private static void doubt() {
        Sentence.test(32, "DOUBT: of all ways to draw as many CUT ones of the SHOPS that were drawn: in how many "
            + "10000ths (up) GAP (as a fraction: not rounded) is as great or greater.", () -> {
            Check.due("1 of 2", doubtOf(draw(asked(0, 1), 1, 0)), 5000);
            Check.due("2 of 2: the less", doubtOf(draw(asked(1, 0), 1, 0)), 10000);
            Check.due("2 of 2: as great", doubtOf(draw(asked(1, 1), 1, 0)), 10000);
            Check.due("1 of 3, up", doubtOf(draw(asked(0, 1, 2), 1, 0, 0)), 3334);
            Check.due("2 of 3, up", doubtOf(draw(asked(0, 1, 2), 0, 1, 0)), 6667);
            Check.due("2 of 3: one is as great", doubtOf(draw(asked(0, 0, 2), 1, 0, 0)), 6667);
            Check.due("1 of 6, up", doubtOf(draw(asked(0, 1, 2, 3), 1, 1, 0, 0)), 1667);
            Check.due("as many CUT ones: 1 of 4", doubtOf(draw(asked(0, 1, 2, 3), 1, 0, 0, 0)), 2500);
            Check.due("as many CUT ones: 1 of 4", doubtOf(draw(asked(0, 1, 2, 3), 1, 1, 1, 0)), 2500);
            Check.due("of the SHOPS that were drawn: 1 of 3", doubtOf(draw(asked(0, 1, 2, 0), 1, 0, 0, -1)), 3334);
            // GAP is 0.5 in three of six ways and -0.5 in two: both would be 0, if they were rounded.
            Check.due("3 of 6", doubtOf(draw(asked(0, 1, 2, 2), 1, 0, 1, 0)), 5000);
            Check.due("5 of 6", doubtOf(draw(asked(0, 1, 2, 2), 0, 1, 1, 0)), 8334);
            int[] ten = {1, 2, 4, 8, 16, 32, 64, 128, 256, 512};
            Check.due("1 of 252, up", doubtOf(draw(asked(ten), 1, 1, 1, 1, 1, 0, 0, 0, 0, 0)), 40);
            Check.due("252 of 252", doubtOf(draw(asked(ten), 0, 0, 0, 0, 0, 1, 1, 1, 1, 1)), 10000);
            Check.due("251 of 252, up", doubtOf(draw(asked(ten), 0, 0, 0, 0, 1, 0, 1, 1, 1, 1)), 9961);
            Check.due("1 of 10", doubtOf(draw(asked(ten), 1, 0, 0, 0, 0, 0, 0, 0, 0, 0)), 1000);
            Check.due("1 of 10, nine of them CUT", doubtOf(draw(asked(ten), 1, 1, 1, 1, 1, 1, 1, 1, 1, 0)), 1000);
        });
    }

    private static void refused() {
        Sentence.test(32, "(10 SHOPS at most, else BIG;", () -> {
            for (int what = 0; what <= 1; what++) {
                DuskShelves x = Worlds.shops(12);
                draw(x, 1, 0, 0, 0, 0, 0, 0, 0, 0);
                Check.due("9 SHOPS", x.waiting(0, 0, 0, what), what == 0 ? 0 : 10000);
                x.drawn(11, 1);
                Check.due("10 SHOPS", x.waiting(0, 0, 0, what), what == 0 ? 0 : 10000);
                x.drawn(10, 0);
                Check.due("11 SHOPS", x.waiting(0, 0, 0, what), BIG);
                x.drawn(9, 0);
                Check.due("12 SHOPS", x.waiting(0, 0, 0, what), BIG);
                x.drawn(0, -1);
                x.drawn(1, -1);
                Check.due("10 SHOPS again", x.waiting(0, 0, 0, what), what == 0 ? 0 : 10000);
            }
        });
        Sentence.test(32, "NOT without some of both.)", () -> {
            for (int what = 0; what <= 1; what++) {
                DuskShelves x = Worlds.shops(2);
                Check.due("none drawn", x.waiting(0, 0, 0, what), NOT);
                x.drawn(0, 1);
                Check.due("one CUT", x.waiting(0, 0, 0, what), NOT);
                x.drawn(1, 1);
                Check.due("both CUT", x.waiting(0, 0, 0, what), NOT);
                x.drawn(0, 0);
                Check.due("some of both", x.waiting(0, 0, 0, what) == NOT ? 1 : 0, 0);
                x.drawn(1, 0);
                Check.due("none CUT", x.waiting(0, 0, 0, what), NOT);
                x.drawn(1, -1);
                Check.due("one not CUT", x.waiting(0, 0, 0, what), NOT);
            }
        });
        Sentence.test(32, "VOID: BAD; -1999999999: NOT; -1999999998: BIG.", () -> {
            Check.bounds("waiting(*, 0, 0, 0)", 0, 0, VOID, v -> Worlds.shops(1).waiting(v, 0, 0, 0));
            Check.bounds("waiting(0, *, 1499, 0)", 0, 1499, VOID, v -> Worlds.shops(1).waiting(0, v, 1499, 0));
            Check.bounds("waiting(0, 0, *, 0)", 0, 1499, VOID, v -> Worlds.shops(1).waiting(0, 0, v, 0));
            Check.bounds("waiting(0, 0, 0, *)", 0, 1, VOID, v -> Worlds.shops(1).waiting(0, 0, 0, v));
            DuskShelves x = Worlds.shops(12);
            Check.due("from 5 to 5", x.waiting(0, 5, 5, 0), NOT);
            Check.due("from 5 to 4", x.waiting(0, 5, 4, 0), VOID);
            draw(x, 1, 1, 1, 1, 1, 1, 1, 1, 1, 1, 1);
            Check.due("NOT ahead of BIG", x.waiting(0, 0, 0, 0), NOT);
            x.drawn(0, 0);
            Check.due("BIG", x.waiting(0, 0, 0, 0), BIG);
            Check.due("VOID ahead of BIG", x.waiting(0, 0, 0, 2), VOID);
            Check.due("VOID ahead of BIG", x.waiting(1, 0, 0, 0), VOID);
        });
    }
}
