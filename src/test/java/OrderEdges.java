/** Promises 24 to 29, sentence by sentence. */
final class OrderEdges {
    private static final int BAD = DuskShelves.BAD, NOT = DuskShelves.NOT, FULL = DuskShelves.FULL;
    private static final int BIG = DuskShelves.BIG;

    private OrderEdges() {
    }

    static void all() {
        mornings();
        order();
        lossParts();
        calls();
        crates();
        ways();
        comes();
        move();
        moveRefused();
    }

    /** A SHOP and a KIND; so much is asked at 6 on the DAYS 0, 7, 14 and so on. */
    private static DuskShelves weeks(int price, int cost, int... asked) {
        DuskShelves x = new DuskShelves();
        x.shop(0);
        x.kind(price, cost, 1, 0);
        for (int i = 0; i < asked.length; i++) {
            Worlds.ask(x, 0, 7 * i, 6, asked[i]);
        }
        return x;
    }

    private static void mornings() {
        Sentence.test(24, "MORNING ORDERS: for a SHOP, KIND, WEATHER and a DAY of the week (DAY % 7), AS KNOWN on DAY "
            + "k: of the ROWS of that SHOP, KIND and WEATHER, of DAYS up to k of that DAY of the week: the sum asked "
            + "on each DAY;",
            () -> {
                DuskShelves x = Worlds.shops(2);
                x.kind(100, 40, 1, 0);
                Worlds.ask(x, 0, 6, 6, 3);
                Worlds.ask(x, 0, 6, 19, 4);
                Worlds.ask(x, 0, 7, 6, 50);
                Worlds.ask(x, 0, 13, 6, 20);
                Check.due("DAY 6, its two ROWS", x.order(0, 0, 60, 6), 7);
                Check.due("DAY 7 is as DAY 0", x.order(0, 0, 0, 7), 50);
                Check.due("not yet known on DAY 6", x.order(0, 0, 0, 6), 0);
                Check.due("LOSS of 0 as known on DAY 5", x.loss(0, 0, 60, 5, 0), 0);
                Check.due("as known on DAY 6", x.loss(0, 0, 60, 6, 0), 7 * 60);
                Check.due("as known on DAY 12", x.loss(0, 0, 60, 12, 0), 7 * 60);
                Check.due("as known on DAY 13", x.loss(0, 0, 60, 13, 0), 27 * 60);
                Check.due("DAY 6 and DAY 13 are two", x.loss(0, 0, 60, 13, 20), 13 * 40);
                Check.due("another DAY of the week", x.loss(0, 0, 50, 1499, 0), 0);
                Check.due("another WEATHER", x.loss(0, 0, 61, 1499, 0), 0);
                Check.due("another SHOP", x.loss(1, 0, 60, 1499, 0), 0);
                Check.due("another KIND", x.loss(0, 1, 60, 1499, 0), 0);
                x.hours(1);
                x.weather(13, 2);
                x.buy(0, 0, 9);
                Check.due("the fair ROWS of that DAY", x.loss(0, 0, 60, 13, 0), 27 * 60);
                Check.due("the hot ROW of that DAY", x.loss(0, 0, 62, 13, 0), 9 * 60);
                ordersOfOne();
            });
        Sentence.test(24, "Without such DAYS 0.", () -> {
            DuskShelves x = weeks(100, 40);
            Check.due("none", x.order(0, 0, 0, 1499), 0);
            Check.due("its LOSS of 999", x.loss(0, 0, 0, 1499, 999), 0);
            DuskShelves y = weeks(100, 40, 0);
            Check.due("one on which none was asked for", y.order(0, 0, 0, 0), 0);
            Check.due("its LOSS of 999", y.loss(0, 0, 0, 0, 999), 999 * 40);
            Check.due("its LOSS of 0", y.loss(0, 0, 0, 0, 0), 0);
        });
    }

    /** SHOP 2 and KIND 1, beside SHOP 1 of the same KIND and KIND 2 of the same SHOP. */
    private static void ordersOfOne() {
        DuskShelves x = Worlds.shops(3);
        x.kind(50, 20, 1, 0);
        x.kind(1, 9, 1, 0);
        x.throwing(1, 4);
        x.throwing(2, 9990);
        for (int week = 0; week < 2; week++) {
            Worlds.until(x, 7 * week, 6);
            x.buy(2, 1, 7 + 13 * week);
            x.buy(1, 1, 100);
            x.buy(2, 2, 200);
        }
        Check.due("LACK of its own", x.loss(2, 1, 0, 0, 0), 7 * 30);
        Check.due("waste of its own", x.loss(2, 1, 0, 0, 10), 3 * 24);
        Check.due("the ORDER of SHOP 2 and KIND 1", x.order(2, 1, 0, 7), 20);
        Check.due("the ORDER of SHOP 1", x.order(1, 1, 0, 7), 100);
        Check.due("the ORDER of KIND 2", x.order(2, 2, 0, 7), 0);
    }

    private static void order() {
        Sentence.test(24, "ORDER is the number q (0 .. 999) with the least LOSS:", () -> {
            for (int sum : new int[] {0, 1, 998, 999, 1000, 1998}) {
                DuskShelves x = weeks(100, 40, sum / 2);
                x.hours(1);
                x.buy(0, 0, sum - sum / 2);
                Check.due("asked " + sum, x.order(0, 0, 0, 0), Math.min(999, sum));
                Check.due("LOSS of 999", x.loss(0, 0, 0, 0, 999), sum > 999 ? 60 * (sum - 999) : 40 * (999 - sum));
            }
            // LACK 60 and waste 40: a DAY of five may lack two pieces, not three.
            Check.due("the third of five", weeks(100, 40, 5, 1, 4, 2, 3).order(0, 0, 0, 99), 3);
            Check.due("the fourth of six", weeks(100, 40, 5, 1, 4, 2, 3, 6).order(0, 0, 0, 99), 4);
        });
        Sentence.test(24, "of several the least q.", () -> {
            DuskShelves x = weeks(80, 40, 2, 4);
            for (int q = 2; q <= 4; q++) {
                Check.due("LOSS of " + q, x.loss(0, 0, 0, 99, q), 80);
            }
            Check.due("of 2 to 4", x.order(0, 0, 0, 99), 2);
            Check.due("when LACK costs nothing", weeks(7, 7, 5).order(0, 0, 0, 99), 0);
            Check.due("when waste costs nothing", weeks(7, 0, 5).order(0, 0, 0, 99), 5);
        });
        Sentence.test(24, "ORDER.", () -> {
            DuskShelves x = weeks(100, 40, 9);
            Check.due("as many as were asked for", x.order(0, 0, 0, 0), 9);
            Check.due("nothing is ordered by it", x.count(2) + x.count(8), 0);
        });
    }

    private static void lossParts() {
        Sentence.test(25, "over these DAYS LACK COST (PRICE less COST, 0 at least) for each piece asked above "
            + "q,", () -> {
            DuskShelves x = weeks(41, 40, 5);
            Check.due("LACK COST 1, five above 0", x.loss(0, 0, 0, 0, 0), 5);
            Check.due("one above 4", x.loss(0, 0, 0, 0, 4), 1);
            Check.due("none above 5", x.loss(0, 0, 0, 0, 5), 0);
            Check.due("PRICE as COST", weeks(40, 40, 5).loss(0, 0, 0, 0, 0), 0);
            Check.due("PRICE below COST", weeks(39, 40, 5).loss(0, 0, 0, 0, 0), 0);
            Check.due("PRICE far below COST", weeks(1, 9999, 5).order(0, 0, 0, 0), 0);
            Check.due("the greatest LACK COST", weeks(9999, 0, 999, 999, 999).loss(0, 0, 0, 99, 0), 3 * 999 * 9999);
        });
        Sentence.test(25, "and COST and THROW for each one of q that is not asked;", () -> {
            DuskShelves x = weeks(100, 40, 5, 7);
            Check.due("none of 5", x.loss(0, 0, 0, 0, 5), 0);
            Check.due("one of 6", x.loss(0, 0, 0, 0, 6), 40);
            Check.due("on both DAYS", x.loss(0, 0, 0, 99, 8), 4 * 40);
            x.throwing(0, 9);
            Check.due("with THROW", x.loss(0, 0, 0, 0, 6), 49);
            Check.due("LACK has no THROW", x.loss(0, 0, 0, 0, 4), 60);
            DuskShelves y = weeks(1, 9999, 0, 0, 0);
            y.throwing(0, 9999);
            Check.due("the most of three DAYS", y.loss(0, 0, 0, 99, 999), 3 * 999 * 19998);
        });
    }

    private static void calls() {
        Sentence.test(24, "what: 10 times the DAY of the week (0 .. 6), and WEATHER.", () -> {
            DuskShelves x = Worlds.shops(1);
            for (int what = -1; what <= 71; what++) {
                boolean good = what >= 0 && what < 70 && what % 10 <= 2;
                Check.due("order of " + what, x.order(0, 0, what, 0), good ? 0 : BAD);
                Check.due("loss of " + what, x.loss(0, 0, what, 0, 0), good ? 0 : BAD);
            }
            Worlds.ask(x, 0, 6, 6, 8, 2);
            Check.due("DAY 6, heat", x.order(0, 0, 62, 6), 8);
            Check.due("DAY 6, rain", x.order(0, 0, 61, 6), 0);
            Check.due("DAY 5, heat", x.order(0, 0, 52, 6), 0);
        });
        Sentence.test(24, "BAD.", () -> {
            Check.bounds("order(*, 0, 0, 0)", 0, 1, BAD, v -> Worlds.shops(2).order(v, 0, 0, 0));
            Check.bounds("order(0, *, 0, 0)", 0, 0, BAD, v -> Worlds.shops(2).order(0, v, 0, 0));
            Check.bounds("order(0, 0, *, 0)", 0, 62, BAD, v -> Worlds.shops(2).order(0, 0, v, 0));
            Check.bounds("order(0, 0, 0, *)", 0, 1499, BAD, v -> Worlds.shops(2).order(0, 0, 0, v));
        });
        Sentence.test(25, "LOSS of q (0 .. 999) likewise.", () -> {
            Check.bounds("loss(0, 0, 0, 0, *)", 0, 999, BAD, v -> Worlds.shops(2).loss(0, 0, 0, 0, v));
            DuskShelves x = weeks(100, 40, 500);
            Check.due("of 0", x.loss(0, 0, 0, 0, 0), 500 * 60);
            Check.due("of 999", x.loss(0, 0, 0, 0, 999), 499 * 40);
            DuskShelves y = new DuskShelves();
            y.shop(0);
            y.kind(9999, 0, 1, 0);
            y.hours(6);
            for (int i = 0; i < 216; i++) {
                y.buy(0, 0, 999);
                y.hours(i % 14 == 13 ? 155 : 1);
            }
            Check.due("of 0, more than an int holds", y.loss(0, 0, 0, 1499, 0), 216L * 999 * 9999);
            DuskShelves z = new DuskShelves();
            z.shop(0);
            z.kind(1, 9999, 1, 0);
            z.throwing(0, 9999);
            z.hours(6);
            for (int i = 0; i < 108; i++) {
                z.buy(0, 0, 0);
                z.hours(168);
            }
            Check.due("of 999, more than an int holds", z.loss(0, 0, 0, 1499, 999), 108L * 999 * 19998);
        });
        Sentence.test(25, "BAD.", () -> {
            Check.bounds("loss(*, 0, 0, 0, 0)", 0, 1, BAD, v -> Worlds.shops(2).loss(v, 0, 0, 0, 0));
            Check.bounds("loss(0, *, 0, 0, 0)", 0, 0, BAD, v -> Worlds.shops(2).loss(0, v, 0, 0, 0));
            Check.bounds("loss(0, 0, *, 0, 0)", 0, 62, BAD, v -> Worlds.shops(2).loss(0, 0, v, 0, 0));
            Check.bounds("loss(0, 0, 0, *, 0)", 0, 1499, BAD, v -> Worlds.shops(2).loss(0, 0, 0, v, 0));
        });
    }

    private static DuskShelves street(int[] places, int[] spare, int[] need) {
        DuskShelves x = new DuskShelves();
        for (int i = 0; i < places.length; i++) {
            x.shop(places[i]);
            x.crates(i, 0, spare[i]);
            x.crates(i, 1, need[i]);
        }
        return x;
    }

    private static void way(String told, DuskShelves x, int miles, int... senders) {
        Check.due(told + ": ways()", x.ways(), miles);
        for (int i = 0; i < senders.length; i++) {
            Check.due(told + ": comes(" + i + ")", x.comes(i), senders[i]);
        }
        Check.due(told + ": no crate more", x.comes(senders.length), BAD);
    }

    private static int[] numbers(int... v) {
        return v;
    }

    private static void crates() {
        Sentence.test(26, "SPARE (what 0), NEED (1) of a SHOP become n (0 .. 3) crates: what they were.", () -> {
            Check.bounds("crates(0, 0, *)", 0, 3, BAD, v -> Worlds.shops(2).crates(0, 0, v));
            Check.bounds("crates(0, 1, *)", 0, 3, BAD, v -> Worlds.shops(2).crates(0, 1, v));
            DuskShelves x = Worlds.shops(12);
            Check.due("SPARE at first", x.crates(11, 0, 3), 0);
            Check.due("NEED at first", x.crates(11, 1, 2), 0);
            Check.due("SPARE then", x.crates(11, 0, 0), 3);
            Check.due("NEED then", x.crates(11, 1, 0), 2);
            Check.due("SPARE at last", x.crates(11, 0, 1), 0);
            Check.due("of another SHOP", x.crates(0, 0, 1), 0);
        });
        Sentence.test(26, "BAD.", () -> {
            Check.bounds("crates(*, 0, 0)", 0, 1, BAD, v -> Worlds.shops(2).crates(v, 0, 0));
            Check.bounds("crates(0, *, 0)", 0, 1, BAD, v -> Worlds.shops(2).crates(0, v, 0));
            DuskShelves x = Worlds.shops(1);
            x.crates(0, 0, 3);
            x.crates(0, 0, 4);
            x.crates(0, 0, -1);
            Check.due("a refused n is not taken", x.crates(0, 0, 0), 3);
        });
        Sentence.test(27, "CRATES: of a KIND, at an HOUR: SHOPS that have more than they need (told numbers SPARE) "
            + "and such as need (told NEED), in crates (0 .. 3 each; 6 of NEED together at most, else BIG):", () -> {
            DuskShelves x = Worlds.shops(12);
            for (int s = 0; s < 12; s++) {
                x.crates(s, 0, 3);
            }
            way("36 of SPARE, none of NEED", x, 0);
            x.crates(0, 1, 3);
            x.crates(11, 1, 3);
            way("6 of NEED", x, 0, 1, 1, 1, 0, 0, 0);
            x.crates(5, 1, 1);
            Check.due("7 of NEED", x.ways(), BIG);
            x.crates(5, 1, 3);
            Check.due("9 of NEED", x.ways(), BIG);
            x.crates(5, 1, 0);
            Check.due("6 again", x.ways(), 0);
        });
    }

    private static void ways() {
        Sentence.test(27, "MILES of two SHOPS: the difference of x and that of y, together.", () -> {
            int[][] due = {{0, 0, 0}, {9999, 9999, 0}, {0, 9999, 198}, {9999, 0, 198}, {99, 9900, 198}, {9900, 99, 198},
                {5, 4, 1}, {4, 5, 1}, {400, 500, 1}, {500, 400, 1}, {199, 200, 100}, {512, 734, 24}};
            for (int[] d : due) {
                way(d[0] + " to " + d[1], street(numbers(d[0], d[1]), numbers(1, 0), numbers(0, 1)), d[2], 0);
            }
            way("three of the longest", street(numbers(0, 9999, 9999), numbers(3, 0, 0), numbers(0, 3, 0)), 594,
                0, 0, 0);
            way("six of the longest", street(numbers(0, 0, 9999, 9999), numbers(3, 3, 0, 0), numbers(0, 0, 3, 3)), 1188,
                0, 0, 0, 1, 1, 1);
        });
        Sentence.test(27, "each crate goes from one that has SPARE to another one that has NEED:", () -> {
            way("not to itself", street(numbers(0), numbers(3), numbers(3)), 0, NOT, NOT, NOT);
            way("to each other", street(numbers(0, 7), numbers(1, 1), numbers(1, 1)), 14, 1, 0);
            way("from none without SPARE", street(numbers(0, 0), numbers(0, 0), numbers(0, 2)), 0, NOT, NOT);
            way("no more than its SPARE", street(numbers(0, 1), numbers(2, 0), numbers(0, 3)), 2, 0, 0, NOT);
            way("all of its SPARE", street(numbers(0, 1), numbers(3, 0), numbers(0, 3)), 3, 0, 0, 0);
            way("no more than there is NEED", street(numbers(0, 1), numbers(3, 0), numbers(0, 1)), 1, 0);
        });
        Sentence.test(27, "MOST crates are moved;", () -> {
            // One crate could go for 1 MILE, but two can go.
            way("two for 99", street(numbers(0, 50, 1), numbers(1, 1, 0), numbers(0, 1, 1)), 99, 0, 1);
            way("as many as there are, however far", street(numbers(0, 9999, 1), numbers(1, 1, 0), numbers(0, 0, 3)),
                1 + 197, 0, 1, NOT);
        });
        Sentence.test(27, "of these ways the one of the fewest MILES together;", () -> {
            way("not the lesser SHOP first", street(numbers(0, 10, 11, 1), numbers(1, 1, 0, 0), numbers(0, 0, 1, 1)), 2,
                1, 0);
            way("not the nearest one first", street(numbers(4, 7, 5, 1), numbers(1, 1, 0, 0), numbers(0, 0, 1, 1)), 5,
                1, 0);
            way("the near NEED, not the first", street(numbers(0, 9, 3), numbers(1, 0, 0), numbers(0, 1, 1)), 3,
                NOT, 0);
            way("one MILE less", street(numbers(5, 9, 8), numbers(0, 1, 1), numbers(1, 0, 0)), 3, 2);
        });
        Sentence.test(27, "of several the first (by NEED crates, SHOP by SHOP in order, the lesser SHOP from which it "
            + "comes, none last).", () -> {
            way("the lesser SHOP", street(numbers(5, 4, 6), numbers(0, 1, 1), numbers(1, 0, 0)), 1, 1);
            way("the lesser SHOP to the first crate", street(numbers(5, 5, 5), numbers(1, 1, 0), numbers(0, 0, 2)), 0,
                0, 1);
            way("none last", street(numbers(5, 5, 5), numbers(0, 1, 0), numbers(1, 0, 1)), 0, 1, NOT);
            way("none last of one SHOP", street(numbers(5, 5), numbers(2, 0), numbers(0, 3)), 0, 0, 0, NOT);
            way("SHOP by SHOP", street(numbers(0, 0, 3, 9), numbers(0, 3, 0, 3), numbers(2, 0, 0, 1)), 9, 1, 1, 1);
            way("the first crate from the lesser, the last from the greater", street(numbers(2, 0, 4, 2),
                numbers(0, 1, 1, 0), numbers(1, 0, 0, 1)), 4, 1, 2);
            int[] last = new int[12];
            last[10] = 1;
            last[11] = 1;
            int[] first = new int[12];
            first[0] = 3;
            way("of the last SHOPS", street(new int[12], last, first), 0, 10, 11, NOT);
        });
        Sentence.test(27, "CRATES: MILES of the way found.", () -> {
            way("no SHOPS at all", new DuskShelves(), 0);
            way("two crates", street(numbers(0, 512), numbers(2, 0), numbers(0, 2)), 34, 0, 0);
            DuskShelves x = street(numbers(0, 3), numbers(1, 0), numbers(0, 1));
            x.hours(5);
            x.kind(1, 1, 1, 0);
            way("by the numbers as they are", x, 3, 0);
            x.crates(0, 0, 0);
            way("by the numbers as they are then", x, 0, NOT);
            Check.due("nothing is MOVED by it", x.count(2), 0);
        });
        Sentence.test(27, "BAD; BIG.", () -> {
            DuskShelves x = street(numbers(0, 1, 2), numbers(3, 0, 0), numbers(0, 3, 3));
            Check.due("6 of NEED", x.ways(), 3);
            x.crates(0, 1, 1);
            Check.due("7 of NEED", x.ways(), BIG);
            x.crates(1, 1, 2);
            Check.due("6 again", x.ways() == BIG ? 1 : 0, 0);
        });
        Sentence.test(27, "(SPARE and NEED stay.)", () -> {
            DuskShelves x = street(numbers(0, 4), numbers(3, 0), numbers(0, 2));
            way("once", x, 8, 0, 0);
            way("and again", x, 8, 0, 0);
            Check.due("SPARE", x.crates(0, 0, 1), 3);
            Check.due("NEED", x.crates(1, 1, 3), 2);
            x.crates(0, 1, 3);
            x.shop(9);
            x.crates(2, 1, 1);
            Check.due("7 of NEED", x.ways(), BIG);
            Check.due("SPARE when BIG", x.crates(0, 0, 0), 1);
            Check.due("NEED when BIG", x.crates(1, 1, 0), 3);
        });
    }

    private static void comes() {
        Sentence.test(28, "Of the latest ways() that was not BIG: from which SHOP NEED crate i (SHOP by SHOP) "
            + "comes;", () -> {
            DuskShelves x = street(numbers(0, 9, 8, 1), numbers(0, 3, 0, 3), numbers(2, 0, 1, 0));
            way("crates 0 and 1 of SHOP 0, 2 of SHOP 2", x, 3, 3, 3, 1);
            x.crates(0, 1, 0);
            Check.due("as it was found", x.comes(2), 1);
            way("crate 0 of SHOP 2", x, 1, 1);
            x.crates(0, 1, 3);
            x.crates(2, 1, 3);
            x.crates(1, 1, 1);
            Check.due("BIG", x.ways(), BIG);
            Check.due("of the latest that was not", x.comes(0), 1);
            Check.due("no crate 1 in that", x.comes(1), BAD);
        });
        Sentence.test(28, "NOT: from none.", () -> {
            way("one of two", street(numbers(0, 0), numbers(1, 0), numbers(0, 2)), 0, 0, NOT);
            way("none of six", street(numbers(0, 0), numbers(0, 0), numbers(3, 3)), 0, NOT, NOT, NOT, NOT, NOT, NOT);
        });
        Sentence.test(28, "BAD: none such, or before any.", () -> {
            DuskShelves x = Worlds.shops(2);
            x.crates(0, 0, 3);
            x.crates(1, 1, 2);
            Check.due("before any", x.comes(0), BAD);
            x.ways();
            Check.due("crate 0", x.comes(0), 0);
            Check.due("crate 1", x.comes(1), 0);
            Check.due("no crate 2", x.comes(2), BAD);
            Check.bounds("comes(*) of six", 0, 5, BAD, v -> {
                DuskShelves y = street(numbers(0, 1, 1), numbers(3, 0, 0), numbers(0, 3, 3));
                y.ways();
                return y.comes(v);
            });
            DuskShelves z = street(numbers(0, 1, 1), numbers(3, 1, 0), numbers(3, 3, 1));
            Check.due("BIG", z.ways(), BIG);
            Check.due("one that was BIG is none", z.comes(0), BAD);
            Check.due("an empty way", new DuskShelves().ways(), 0);
        });
    }

    private static void move() {
        Sentence.test(29, "n (1 .. 999) pieces of a KIND are MOVED from a SHOP to another one: how many (those that "
            + "MAY BE SOLD, n at most):", () -> {
            Check.bounds("move(0, 1, 0, *)", 1, 999, BAD, v -> eldest(999).move(0, 1, 0, v));
            for (int n : new int[] {1, 4, 5, 6, 999}) {
                DuskShelves x = eldest(5);
                x.batch(0, 7, 1, 90);
                Check.law(x, 0, 0, "!a");
                Check.due(n + " of 5 that MAY BE SOLD", x.move(0, 1, 0, n), Math.min(5, n));
                Check.due("there", x.shelf(1, 0, 0), Math.min(5, n));
                Check.due("here", x.shelf(0, 0, 0), 95 - Math.min(5, n));
                Check.due("of the younger one", x.ofBatch(1, 7), 0);
            }
            DuskShelves y = eldest(999);
            y.batch(0, 0, 0, 1);
            Check.due("999 at most", y.move(0, 1, 0, 999), 999);
            Check.due("the last one", y.move(0, 1, 0, 999), 1);
            y.kind(1, 1, 1, 0);
            y.batch(0, 100, 0, 3);
            Check.due("none of another KIND", y.move(0, 1, 0, 1), NOT);
        });
        Sentence.test(29, "each BATCH of which some are becomes a BATCH there (eldest first, as they are "
            + "taken).", () -> {
            int[][] due = {{1, 1}, {2, 1}, {3, 2}, {4, 2}, {5, 3}, {6, 3}, {7, 3}};
            for (int[] d : due) {
                DuskShelves x = eldest(2);
                x.batch(0, 22, 1, 2);
                x.batch(0, 33, 0, 2);
                x.move(0, 1, 0, d[0]);
                Check.due("BATCHES more when " + d[0] + " are MOVED", x.count(2) - 3, d[1]);
            }
            DuskShelves x = eldest(2);
            x.batch(0, 22, 1, 2);
            x.batch(0, 33, 0, 2);
            x.move(0, 1, 0, 5);
            int[][] there = {{22, 0, 2, 1}, {0, 1, 2, 0}, {33, 1, 1, 2}};
            for (int i = 0; i < 3; i++) {
                Check.due("LOT", x.ofBatch(3 + i, 2), there[i][0]);
                Check.due("DAY", x.ofBatch(3 + i, 3), there[i][1]);
                Check.due("pieces", x.ofBatch(3 + i, 4), there[i][2]);
                Check.due("FROM", x.ofBatch(3 + i, 11), there[i][3]);
            }
            x.bin(2, 1, 0);
            Check.due("of BATCHES with nothing left nothing comes", x.move(0, 1, 0, 9), NOT);
        });
    }

    /** On DAY 1 two SHOPS, and BATCH 0 in the first one, made TODAY. */
    private static DuskShelves eldest(int pieces) {
        DuskShelves x = Worlds.shops(2, 1, 0);
        x.batch(0, 0, 0, pieces);
        return x;
    }

    private static void moveRefused() {
        Sentence.test(29, "BAD (also one and the same);", () -> {
            Check.bounds("move(*, 0, 0, 1)", 1, 1, BAD, v -> both().move(v, 0, 0, 1));
            Check.bounds("move(0, *, 0, 1)", 1, 1, BAD, v -> both().move(0, v, 0, 1));
            Check.bounds("move(0, 1, *, 1)", 0, 0, BAD, v -> both().move(0, 1, v, 1));
            Check.due("0 to 0", both().move(0, 0, 0, 1), BAD);
            Check.due("1 to 1", both().move(1, 1, 0, 1), BAD);
            Check.due("BAD ahead of NOT", Worlds.shops(2).move(0, 0, 0, 1), BAD);
        });
        Sentence.test(29, "NOT: there are none;", () -> {
            DuskShelves x = Worlds.shops(2);
            Check.due("nothing came", x.move(0, 1, 0, 1), NOT);
            x.batch(0, 0, 0, 1);
            Check.due("one", x.move(0, 1, 0, 1), 1);
            Check.due("it is gone", x.move(0, 1, 0, 1), NOT);
            Check.law(x, 0, 0, "0");
            Check.due("it MAY not BE SOLD", x.move(1, 0, 0, 1), NOT);
        });
        Sentence.test(29, "FULL: too few BATCHES are left (nothing then).", () -> {
            for (int left = 0; left <= 3; left++) {
                DuskShelves x = Worlds.shops(2);
                for (int i = left; i < 200; i++) {
                    x.batch(0, 0, 0, 2);
                }
                if (left > 0) {
                    Check.due("just as many as are left", x.move(0, 1, 0, 2 * left), 2 * left);
                    Check.due("they are filled", x.batch(0, 0, 0, 1), FULL);
                    x = Worlds.shops(2);
                    for (int i = left; i < 200; i++) {
                        x.batch(0, 0, 0, 2);
                    }
                }
                Check.due("a piece of one more", x.move(0, 1, 0, 2 * left + 1), FULL);
                Check.due("no BATCH more", x.count(2), 200 - left);
                Check.due("nothing there", x.shelf(1, 0, 0), 0);
                Check.due("all here", x.shelf(0, 0, 0), 2 * (200 - left));
                Check.due("none is MOVED", x.ofBatch(0, 7), 0);
                Check.due("BAD ahead of FULL", x.move(0, 1, 0, 0), BAD);
                Check.law(x, 0, 0, "0");
                Check.due("NOT ahead of FULL", x.move(0, 1, 0, 999), NOT);
            }
            fullOfParts();
        });
    }

    /** Two BATCHES are left: how many a move makes tells what is on the shelf still, not what came. */
    private static void fullOfParts() {
        DuskShelves x = Worlds.shops(2);
        x.kind(1, 1, 1, 0);
        for (int i = 0; i < 3; i++) {
            x.batch(0, 0, 0, 9);
            x.bin(i, 7, 0);
        }
        for (int i = 3; i < 198; i++) {
            x.batch(0, i < 196 ? 0 : 100, 0, 2);
        }
        Check.due("a piece of a third BATCH", x.move(0, 1, 0, 5), FULL);
        Check.due("more than there are, in two BATCHES", x.move(0, 1, 1, 999), 4);
        Check.due("just one more", x.move(0, 1, 0, 1), FULL);
    }

    private static DuskShelves both() {
        DuskShelves x = Worlds.shops(2);
        x.batch(0, 0, 0, 5);
        x.batch(1, 0, 0, 5);
        return x;
    }
}
