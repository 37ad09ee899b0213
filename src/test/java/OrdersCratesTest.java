/** Promises 24 to 29. */
public final class OrdersCratesTest {
    private static final int BAD = DuskShelves.BAD, NOT = DuskShelves.NOT, FULL = DuskShelves.FULL;
    private static final int BIG = DuskShelves.BIG;

    private OrdersCratesTest() {
    }

    /** So much asked at 6 and at 7, a week apart each. */
    private static DuskShelves weeks(int price, int cost, int[]... asked) {
        DuskShelves x = new DuskShelves();
        x.shop(0);
        x.shop(0);
        x.kind(price, cost, 1, 0);
        x.hours(6);
        for (int[] two : asked) {
            x.buy(0, 0, two[0]);
            x.hours(1);
            x.buy(0, 0, two[1]);
            x.hours(167);
        }
        return x;
    }

    private static void order() {
        DuskShelves x = weeks(100, 40, new int[] {3, 4}, new int[] {10, 10}, new int[] {1, 0});
        // LACK 60, waste 40: of 1, 7, 20 the middle one.
        Check.due("24: order", x.order(0, 0, 0, 14), 7);
        Check.due("25: loss of 7", x.loss(0, 0, 0, 14, 7), 13 * 60 + 6 * 40);
        Check.due("25: loss of 0", x.loss(0, 0, 0, 14, 0), 28 * 60);
        Check.due("25: loss of 999", x.loss(0, 0, 0, 14, 999), 40L * (3 * 999 - 28));
        Check.due("24: as known on day 13", x.order(0, 0, 0, 13), 20);
        Check.due("24: as known on day 7", x.order(0, 0, 0, 7), 20);
        Check.due("24: as known on day 6", x.order(0, 0, 0, 6), 7);
        Check.due("24: other day of the week", x.order(0, 0, 10, 14), 0);
        Check.due("24: other weather", x.order(0, 0, 1, 14), 0);
        Check.due("24: other shop", x.order(1, 0, 0, 14), 0);
        x.throwing(0, 200);
        Check.due("24: with THROW", x.order(0, 0, 0, 14), 1);
        Check.due("25: with THROW", x.loss(0, 0, 0, 14, 8), 12 * 60 + 8 * 240);
        int[] bad = {-1, 70, 3, 9, 63};
        for (int what : bad) {
            Check.due("24: what " + what, x.order(0, 0, what, 14), BAD);
            Check.due("25: what " + what, x.loss(0, 0, what, 14, 1), BAD);
        }
        Check.due("24: what 62", x.order(0, 0, 62, 14), 0);
        Check.due("24: day 1500", x.order(0, 0, 0, 1500), BAD);
        Check.due("24: day -1", x.order(0, 0, 0, -1), BAD);
        Check.due("24: shop 2", x.order(2, 0, 0, 1), BAD);
        Check.due("24: kind 1", x.order(0, 1, 0, 1), BAD);
        Check.due("25: q 1000", x.loss(0, 0, 0, 1, 1000), BAD);
        Check.due("25: q -1", x.loss(0, 0, 0, 1, -1), BAD);
        Check.due("25: day 1500", x.loss(0, 0, 0, 1500, 1), BAD);
    }

    private static void orderEdges() {
        DuskShelves x = weeks(100, 50, new int[] {3, 0}, new int[] {9, 0});
        Check.due("24: as good from 3 to 9, the least", x.order(0, 0, 0, 99), 3);
        x = weeks(100, 0, new int[] {999, 2});
        Check.due("24: 999 at most", x.order(0, 0, 0, 99), 999);
        Check.due("25: beyond 999", x.loss(0, 0, 0, 99, 999), 200);
        x = weeks(5, 9, new int[] {7, 0});
        Check.due("24: LACK costs nothing", x.order(0, 0, 0, 99), 0);
        Check.due("25: LACK costs nothing", x.loss(0, 0, 0, 99, 0), 0);
        Check.due("25: waste does", x.loss(0, 0, 0, 99, 9), 18);
        x = weeks(9999, 0, new int[] {7, 0});
        Check.due("24: waste costs nothing", x.order(0, 0, 0, 99), 7);
        x = weeks(9999, 1, new int[] {0, 0}, new int[] {9, 0}, new int[] {0, 0});
        Check.due("24: DAYS of none count", x.loss(0, 0, 0, 99, 9), 18);
        // The weather of one DAY changes: its ROWS are parted.
        x = new DuskShelves();
        x.shop(0);
        x.kind(9, 4, 1, 0);
        x.hours(6);
        x.buy(0, 0, 5);
        x.hours(1);
        x.weather(0, 2);
        x.buy(0, 0, 8);
        Check.due("24: the fair ROW", x.order(0, 0, 0, 0), 5);
        Check.due("24: the hot ROW", x.order(0, 0, 2, 0), 8);
        // Far above an int.
        x = weeks(9999, 0);
        for (int i = 0; i < 230; i++) {
            x.buy(0, 0, 999);
            x.hours(i % 14 == 13 ? 155 : 1);
        }
        Check.due("25: a long", x.loss(0, 0, 0, 1499, 0), 230L * 999 * 9999);
    }

    private static void crates() {
        DuskShelves x = new DuskShelves();
        Check.due("26: no shop", x.crates(0, 0, 1), BAD);
        Check.due("27: no shops at all", x.ways(), 0);
        Check.due("28: no crate", x.comes(0), BAD);
        x.shop(0);
        Check.due("26: spare", x.crates(0, 0, 3), 0);
        Check.due("26: need", x.crates(0, 1, 2), 0);
        Check.due("26: spare was", x.crates(0, 0, 1), 3);
        Check.due("26: need was", x.crates(0, 1, 1), 2);
        Check.due("26: 4", x.crates(0, 0, 4), BAD);
        Check.due("26: -1", x.crates(0, 0, -1), BAD);
        Check.due("26: what 2", x.crates(0, 2, 1), BAD);
        Check.due("26: what -1", x.crates(0, -1, 1), BAD);
        Check.due("26: shop 1", x.crates(1, 0, 1), BAD);
        Check.due("27: none to itself", x.ways(), 0);
        Check.due("28: from none", x.comes(0), NOT);
        Check.due("28: no crate 1", x.comes(1), BAD);
        Check.due("28: no crate -1", x.comes(-1), BAD);
    }

    private static DuskShelves street(int[] places, int[] spare, int[] need) {
        DuskShelves x = new DuskShelves();
        for (int i = 0; i < places.length; i++) {
            x.shop(places[i]);
            x.crates(i, 0, spare[i]);
            x.crates(i, 1, need[i]);
        }
        return x;
    }

    private static void way(String told, DuskShelves x, int miles, int... senders) {
        Check.due("27: " + told, x.ways(), miles);
        for (int i = 0; i < senders.length; i++) {
            Check.due("28: " + told + " comes(" + i + ")", x.comes(i), senders[i]);
        }
        Check.due("28: " + told + " no more", x.comes(senders.length), BAD);
    }

    private static void ways() {
        way("both across", street(new int[] {0, 1, 2}, new int[] {1, 1, 0}, new int[] {1, 1, 0}), 2, 1, 0);
        way("most crates ahead of fewest miles", street(new int[] {0, 9900, 9901, 100},
            new int[] {1, 0, 1, 0}, new int[] {0, 1, 0, 1}), 2, 2, 0);
        way("a far one, as each is needed", street(new int[] {0, 1, 99, 0}, new int[] {1, 0, 0, 1},
            new int[] {0, 1, 1, 1}), 1, 3, -2, 0);
        way("the lesser shop first, none last", street(new int[] {5, 5, 5, 5}, new int[] {0, 1, 1, 0},
            new int[] {0, 0, 0, 3}), 0, 1, 2, -2);
        way("the first crates first", street(new int[] {5, 5, 5, 5}, new int[] {0, 0, 1, 0},
            new int[] {1, 1, 0, 1}), 0, 2, -2, -2);
        way("x and y together", street(new int[] {9900, 99}, new int[] {0, 2}, new int[] {2, 0}), 396, 1, 1);
        int[] at = new int[12];
        int[] spare = new int[12];
        int[] need = new int[12];
        for (int i = 0; i < 12; i++) {
            at[i] = i == 5 ? 1 : 0;
            spare[i] = i == 5 ? 0 : 3;
        }
        need[5] = 3;
        need[11] = 3;
        way("twelve shops", street(at, spare, need), 3, 0, 0, 0, 1, 1, 1);
    }

    private static void tooBig() {
        DuskShelves x = street(new int[] {0, 10, 20}, new int[] {3, 0, 0}, new int[] {0, 3, 3});
        way("six of need", x, 30, 0, 0, 0, -2, -2, -2);
        x.crates(0, 1, 1);
        Check.due("27: seven of need", x.ways(), BIG);
        Check.due("28: the latest that was not BIG", x.comes(0), 0);
        Check.due("28: and its length", x.comes(5), NOT);
        Check.due("28: no seventh", x.comes(6), BAD);
        Check.due("26: NEED stays", x.crates(0, 1, 0), 1);
        Check.due("26: SPARE stays", x.crates(0, 0, 1), 3);
        way("one of spare", x, 10, 0, -2, -2, -2, -2, -2);
    }

    private static void move() {
        DuskShelves x = new DuskShelves();
        x.shop(0);
        x.shop(9);
        x.kind(9, 4, 1, 0);
        x.kind(9, 4, 1, 0);
        Check.due("29: there are none", x.move(0, 1, 0, 1), NOT);
        Check.due("29: to itself", x.move(0, 0, 0, 1), BAD);
        Check.due("29: shop 2", x.move(0, 2, 0, 1), BAD);
        Check.due("29: from shop 2", x.move(2, 0, 0, 1), BAD);
        Check.due("29: kind 2", x.move(0, 1, 2, 1), BAD);
        Check.due("29: none of them", x.move(0, 1, 0, 0), BAD);
        Check.due("29: 1000", x.move(0, 1, 0, 1000), BAD);
        x.hours(24);
        x.batch(0, 11, 0, 10);
        x.batch(0, 22, 1, 10);
        x.batch(0, 133, 1, 10);
        Check.due("29: fewer than there are", x.move(0, 1, 0, 13), 13);
        int[][] due = {{0, 0, 11, 1, 10, 7, 0, 3, 0, 0, 0, -1, 0}, {0, 0, 22, 0, 10, 0, 0, 10, 0, 0, 0, -1, 1},
            {0, 1, 33, 0, 10, 10, 0, 0, 0, 0, 0, -1, 2}, {1, 0, 22, 0, 10, 10, 0, 0, 0, 0, 0, 1, 1},
            {1, 0, 11, 1, 3, 3, 0, 0, 0, 0, 0, 0, 0}};
        for (int b = 0; b < 5; b++) {
            for (int i = 0; i < 13; i++) {
                Check.due("29: ofBatch(" + b + ", " + i + ")", x.ofBatch(b, i), due[b][i]);
            }
        }
        Check.due("29: just ten are touched", x.move(1, 0, 0, 10), 10);
        Check.due("29: one BATCH more", x.count(2), 6);
        Check.due("29: led back", x.ofBatch(5, 12), 1);
        Check.law(x, 0, 0, "!a");
        Check.due("29: what may be sold", x.move(0, 1, 0, 999), 7);
        Check.due("29: nothing that may be", x.move(0, 1, 1, 999), NOT);
        Check.due("29: orders cost as they did", x.count(8), 120);
    }

    private static void moveFull() {
        DuskShelves x = new DuskShelves();
        x.shop(0);
        x.shop(9);
        x.kind(9, 4, 1, 0);
        for (int i = 0; i < 198; i++) {
            x.batch(0, 0, 0, 2);
        }
        Check.due("29: three are too many", x.move(0, 1, 0, 5), FULL);
        Check.due("29: nothing then", x.shelf(0, 0, 0), 396);
        Check.due("29: nothing there", x.shelf(1, 0, 0), 0);
        Check.due("29: two are not", x.move(0, 1, 0, 4), 4);
        Check.due("29: FULL", x.move(0, 1, 0, 1), FULL);
        Check.due("29: BAD ahead of FULL", x.move(0, 1, 0, 0), BAD);
        Check.law(x, 0, 0, "0");
        Check.due("29: NOT ahead of FULL", x.move(0, 1, 0, 1), NOT);
    }

    private static void moveJustFits() {
        DuskShelves x = new DuskShelves();
        x.shop(0);
        x.shop(9);
        x.kind(9, 4, 1, 0);
        x.kind(9, 4, 1, 0);
        for (int i = 0; i < 198; i++) {
            x.batch(0, i < 196 ? 0 : 100, 0, 2);
        }
        Check.due("29: 392 of a kind stand in line", x.shelf(0, 0, 1), 392);
        Check.due("29: all there are, in the last two BATCHES", x.move(0, 1, 1, 999), 4);
        Check.due("29: BATCHES", x.count(2), 200);
        Check.due("29: the other kind is as it was", x.shelf(0, 0, 0), 392);
    }

    public static void main(String[] args) {
        order();
        orderEdges();
        crates();
        ways();
        tooBig();
        move();
        moveFull();
        moveJustFits();
        Check.end("OrdersCratesTest");
    }
}
