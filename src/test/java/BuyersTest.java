/** Promises 19 to 23. */
public final class BuyersTest {
    private static final int BAD = DuskShelves.BAD, NOT = DuskShelves.NOT, VOID = DuskShelves.VOID;

    private BuyersTest() {
    }

    private static DuskShelves market(int shops) {
        DuskShelves x = new DuskShelves();
        for (int i = 0; i < shops; i++) {
            x.shop(i);
        }
        x.kind(100, 40, 10, 0);
        return x;
    }

    private static void buy() {
        DuskShelves x = market(2);
        x.kind(31, 1, 1, 0);
        x.batch(0, 0, 0, 20);
        x.hours(5);
        Check.due("19: closed at 5", x.buy(0, 0, 1), NOT);
        x.hours(1);
        Check.due("19: open at 6", x.buy(0, 0, 5), 5);
        Check.due("19: the ROW is there", x.buy(0, 0, 5), NOT);
        Check.due("19: the other kind", x.buy(0, 1, 4), 0);
        Check.due("19: the other shop", x.buy(1, 0, 0), 0);
        Check.due("19: a ROW of none", x.buy(1, 0, 3), NOT);
        Check.due("19: -1", x.buy(0, 0, -1), BAD);
        Check.due("19: 1000", x.buy(0, 0, 1000), BAD);
        Check.due("19: shop 2", x.buy(2, 0, 1), BAD);
        Check.due("19: kind 2", x.buy(0, 2, 1), BAD);
        x.hours(13);
        x.cut(0, 0, 1);
        Check.due("19: open at 19", x.buy(0, 0, 999), 15);
        Check.due("39: at the STEP as it is", x.till(0), 500 + 15 * 75);
        x.hours(1);
        Check.due("19: closed at 20", x.buy(0, 0, 1), NOT);
        Check.due("40: ROWS", x.count(3), 4);
        Check.due("40: LACK", x.count(13), 4 + 984);
        Check.due("40: SOLD", x.count(10), 20);
    }

    private static void eldestFirst() {
        DuskShelves x = market(1);
        x.batch(0, 1, 0, 10);
        x.hours(54);
        x.batch(0, 2, 0, 10);
        x.batch(0, 3, 2, 10);
        x.batch(0, 4, 1, 10);
        x.batch(0, 5, 1, 10);
        Check.law(x, 0, 0, "a<2|h>6");
        Check.due("19: by MADE, then by BATCH, and just what may be sold", x.buy(0, 0, 13), 13);
        int[] due = {10, 10, 10, 0, 7};
        for (int b = 0; b < 5; b++) {
            Check.due("19: shelf of " + b, x.ofBatch(b, 5), due[b]);
        }
        x.hours(1);
        Check.due("19: the eldest may be sold now", x.buy(0, 0, 12), 12);
        Check.due("19: the first one", x.ofBatch(0, 5), 0);
        Check.due("19: as old, but a later BATCH", x.ofBatch(2, 5), 8);
    }

    /** One ROW at 6 on each of so many DAYS, from the coming one on. */
    private static void days(DuskShelves x, int shop, int weather, int... asked) {
        for (int n : asked) {
            int hour = x.count(5);
            int day = (hour + 24 - 6) / 24;
            x.hours(day * 24 + 6 - hour);
            x.weather(day, weather);
            x.buy(shop, 0, n);
            x.hours(1);
        }
    }

    private static void foretold() {
        DuskShelves x = market(2);
        Check.due("20: none", x.foretold(0, 0, 600, 0), 0);
        days(x, 1, 0, 100, 101);
        Check.due("20: of all shops, halves up", x.foretold(0, 0, 600, 9), 101);
        Check.due("20: as known on day 0", x.foretold(0, 0, 600, 0), 100);
        days(x, 0, 1, 1, 2);
        Check.due("20: two of the shop are too few", x.foretold(0, 0, 601, 9), 51);
        days(x, 0, 0, 4);
        Check.due("20: three of the shop", x.foretold(0, 0, 601, 9), 2);
        Check.due("20: as known on the day ahead", x.foretold(0, 0, 601, 3), 51);
        days(x, 0, 1, 21);
        Check.due("20: three of shop and weather", x.foretold(0, 0, 601, 9), 8);
        Check.due("20: four of the shop", x.foretold(0, 0, 600, 9), 7);
        Check.due("20: other hour", x.foretold(0, 0, 700, 9), 0);
        Check.due("20: other step", x.foretold(0, 0, 610, 9), 0);
        int[] bad = {599, -1, 560, 2000, 640, 603, 1909 + 91};
        for (int what : bad) {
            Check.due("20: what " + what, x.foretold(0, 0, what, 9), BAD);
        }
        Check.due("20: what 1932", x.foretold(0, 0, 1932, 9), 0);
        Check.due("20: day -1", x.foretold(0, 0, 600, -1), BAD);
        Check.due("20: day 1500", x.foretold(0, 0, 600, 1500), BAD);
        Check.due("20: shop 2", x.foretold(2, 0, 600, 0), BAD);
        Check.due("20: kind 1", x.foretold(0, 1, 600, 0), BAD);
        days(x, 0, 1, 12);
        x.weather(6, 2);
        Check.due("20: the weather of a ROW is that of then", x.foretold(0, 0, 601, 1499), 9);
    }

    private static void planBounds() {
        DuskShelves x = market(1);
        x.hours(5);
        Check.due("21: closed", x.plan(0, 0), VOID);
        Check.due("23: before any", x.left(), BAD);
        Check.due("22: before any", x.planned(19), BAD);
        x.hours(2);
        Check.due("21: shop 1", x.plan(1, 0), VOID);
        Check.due("21: kind 1", x.plan(0, 1), VOID);
        x.batch(0, 0, 0, 3);
        x.throwing(0, 9);
        Check.due("21: nobody comes", x.plan(0, 0), -27);
        Check.due("22: an hour gone by", x.planned(6), BAD);
        for (int h = 7; h < 20; h++) {
            Check.due("22: planned(" + h + ")", x.planned(h), 0);
        }
        Check.due("22: beyond 19", x.planned(20), BAD);
        Check.due("23: left", x.left(), 3);
        x.cut(0, 0, 2);
        x.plan(0, 0);
        Check.due("22: no lesser step than now", x.planned(7), 2);
        x.buy(0, 0, 1);
        Check.due("21: has its ROW", x.plan(0, 0), VOID);
        Check.due("22: the latest that was not VOID", x.planned(19), 2);
        x.hours(20);
        Check.due("22: still on the next day", x.planned(7), 2);
        Check.due("23: still", x.left(), 3);
    }

    private static void planCuts() {
        DuskShelves x = market(2);
        // Of day 0: at 18 none at full price, at 19 few; the other shop has sold more at lesser prices.
        x.hours(18);
        x.buy(0, 0, 2);
        x.cut(1, 0, 1);
        x.buy(1, 0, 6);
        x.hours(1);
        x.buy(0, 0, 1);
        x.cut(1, 0, 2);
        x.buy(1, 0, 20);
        x.hours(23);
        x.batch(0, 0, 0, 12);
        // 18: 2 at 100 or 6 at 75. 19: 1 at 100 or 20 at 50.
        Check.due("21: 6 at 75, 6 at 50", x.plan(0, 0), 750);
        Check.due("22: at 18", x.planned(18), 1);
        Check.due("22: at 19", x.planned(19), 2);
        Check.due("23: none left", x.left(), 0);
        x.bin(0, 9, 0);
        Check.due("21: 2 and 1 at 100", x.plan(0, 0), 300);
        Check.due("22: at 18", x.planned(18), 0);
        Check.due("22: at 19", x.planned(19), 0);
        Check.due("23: none left", x.left(), 0);
        x.batch(0, 0, 0, 97);
        x.throwing(0, 1);
        Check.due("21: 6 at 75, 20 at 50, 74 thrown", x.plan(0, 0), 450 + 1000 - 74);
        Check.due("22: at 18", x.planned(18), 1);
        Check.due("23: left", x.left(), 74);
        Check.law(x, 0, 0, "0");
        Check.due("21: what may not be sold is no stock", x.plan(0, 0), 0);
        Check.due("23: nor left", x.left(), 0);
        Check.law(x, 0, 0, "1");
        x.weather(1, 2);
        Check.due("21: with any weather, as so few are known", x.plan(0, 0), 450 + 1000 - 74);
        x.cut(0, 0, 3);
        Check.due("21: all would be thrown", x.plan(0, 0), -100);
        Check.due("22: cut already", x.planned(18), 3);
    }

    private static void planTies() {
        DuskShelves x = market(3);
        // 4 at 100, 8 at 50 and 16 at 25 bring the same at 19; with THROW the most pieces win.
        x.hours(19);
        x.buy(0, 0, 4);
        x.cut(1, 0, 2);
        x.buy(1, 0, 8);
        x.cut(2, 0, 3);
        x.buy(2, 0, 16);
        x.hours(23);
        x.batch(0, 0, 0, 30);
        Check.due("21: a tie", x.plan(0, 0), 400);
        Check.due("22: the lesser step", x.planned(19), 0);
        Check.due("22: in the hour ahead too", x.planned(18), 0);
        Check.due("23: left", x.left(), 26);
        x.throwing(0, 1);
        Check.due("21: no tie with THROW", x.plan(0, 0), 400 - 14);
        Check.due("22: lesser as long as it may be", x.planned(18), 0);
        Check.due("22: then the most pieces", x.planned(19), 3);
    }

    /** No run of 512 calls comes so far, but no call may throw even then. */
    private static void fullOfRows() {
        DuskShelves x = market(12);
        for (int i = 1; i < 10; i++) {
            x.kind(100, 40, 10, 0);
        }
        x.hours(6);
        for (int i = 0; i < 600; i++) {
            x.buy(i / 10 % 12, i % 10, 1);
            if (i % 120 == 119) {
                x.hours(1);
            }
        }
        Check.due("19: ROWS", x.count(3), 600);
        Check.due("19: one more", x.buy(0, 0, 1), DuskShelves.FULL);
        Check.due("40: LACK", x.count(13), 600);
        Check.due("20: of 600 ROWS", x.foretold(0, 0, 700, 0), 1);
        Check.due("31: of 600 ROWS", x.early(0, 0, 0, 0), 5);
        Check.due("24: of 600 ROWS", x.order(0, 0, 0, 0), 5);
        Check.due("21: of 600 ROWS", x.plan(0, 0), 0);
    }

    public static void main(String[] args) {
        buy();
        eldestFirst();
        foretold();
        planBounds();
        planCuts();
        planTies();
        fullOfRows();
        Check.end("BuyersTest");
    }
}
