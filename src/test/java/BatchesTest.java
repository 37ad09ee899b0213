/** Promises 11 to 13. */
public final class BatchesTest {
    private static final int BAD = DuskShelves.BAD, FULL = DuskShelves.FULL, VOID = DuskShelves.VOID;

    private BatchesTest() {
    }

    private static void due(String call, DuskShelves x, int batch, int... columns) {
        for (int i = 0; i < columns.length; i++) {
            Check.due(call + ": ofBatch(" + batch + ", " + i + ")", x.ofBatch(batch, i), columns[i]);
        }
    }

    private static void batch() {
        DuskShelves x = new DuskShelves();
        Check.due("11: no shop", x.batch(0, 0, 0, 1), BAD);
        x.shop(0);
        Check.due("11: no kind", x.batch(0, 0, 0, 1), BAD);
        x.kind(10, 7, 3, 0);
        x.kind(10, 1, 3, 0);
        Check.due("11: below", x.batch(0, -1, 0, 1), BAD);
        Check.due("11: kind 2", x.batch(0, 200, 0, 1), BAD);
        Check.due("11: ahead of day 0", x.batch(0, 0, 1, 1), BAD);
        Check.due("11: no pieces", x.batch(0, 0, 0, 0), BAD);
        Check.due("11: 1000 pieces", x.batch(0, 0, 0, 1000), BAD);
        Check.due("11: made tomorrow", x.batch(0, 0, -1, 1), BAD);
        Check.due("11: lot 99", x.batch(0, 99, 0, 999), 0);
        x.hours(240);
        Check.due("11: ten days ago", x.batch(0, 0, 10, 1), BAD);
        Check.due("11: nine days ago", x.batch(0, 105, 9, 2), 1);
        due("11", x, 0, 0, 0, 99, 0, 999, 999, 0, 0, 0, 0, 0, -1, 0);
        due("11", x, 1, 0, 1, 5, 1, 2, 2, 0, 0, 0, 0, 0, -1, 1);
        Check.due("11: cost", x.count(8), 999 * 7 + 2);
        for (int i = 2; i < 200; i++) {
            Check.due("11: batch", x.batch(0, 0, 0, 1), i);
        }
        Check.due("11: one more", x.batch(0, 0, 0, 1), FULL);
        Check.due("11: one more, bad", x.batch(0, 0, 0, 0), BAD);
        Check.due("11: cost is as it was", x.count(8), 999 * 7 + 2 + 198 * 7);
        Check.due("11: count(2)", x.count(2), 200);
        Check.due("35: of so many", x.bin(0, 99, 1), 900);
        Check.due("13: of so many", x.shelf(0, 0, 0), 900 + 198);
        Check.due("13: of so many, may be sold", x.shelf(0, 0, 1), 900 + 198);
        Check.due("40: on all shelves", x.count(9), 900 + 198 + 2);
        Check.due("37: of so many", x.isBad(0, 99, 10), 0);
        Check.law(x, 0, 0, "k");
        Check.due("7: a day begins with so many", x.hours(24), 264);
        Check.due("40: thrown of so many", x.count(12), 999 + 198);
        Check.due("12: the last one thrown", x.ofBatch(199, 9), 1);
    }

    private static void ofBatch() {
        DuskShelves x = new DuskShelves();
        Check.due("12: none", x.ofBatch(0, 0), VOID);
        x.shop(0);
        x.shop(5);
        x.shop(9);
        x.kind(10, 7, 3, 0);
        x.kitchen(0, 23);
        x.batch(0, 42, 0, 100);
        Check.due("12: moved", x.move(0, 1, 0, 60), 60);
        Check.due("12: moved on", x.move(1, 2, 0, 50), 50);
        Check.due("12: sold, closed", x.buy(0, 0, 1), DuskShelves.NOT);
        x.hours(6);
        x.buy(0, 0, 7);
        x.gift(0, 0, 0, 4);
        x.bin(0, 3, 1);
        x.bin(0, 2, 0);
        due("12", x, 0, 0, 0, 42, 0, 100, 24, 7, 60, 4, 5, 3, -1, 0);
        due("12", x, 1, 1, 0, 42, 0, 60, 10, 0, 50, 0, 0, 0, 0, 0);
        due("12", x, 2, 2, 0, 42, 0, 50, 50, 0, 0, 0, 0, 0, 1, 0);
        Check.due("12: what 13", x.ofBatch(0, 13), VOID);
        Check.due("12: what -1", x.ofBatch(0, -1), VOID);
        Check.due("12: batch 3", x.ofBatch(3, 0), VOID);
        Check.due("12: batch -1", x.ofBatch(-1, 0), VOID);
    }

    private static void shelf() {
        DuskShelves x = new DuskShelves();
        x.shop(0);
        x.shop(0);
        Check.due("13: no kind", x.shelf(0, 0, 0), BAD);
        x.kind(10, 7, 3, 0);
        x.kind(10, 7, 3, 0);
        x.batch(0, 1, 0, 10);
        x.batch(1, 1, 0, 500);
        x.batch(0, 101, 0, 300);
        x.hours(24);
        x.batch(0, 2, 1, 20);
        x.batch(0, 2, 0, 40);
        for (int what = 0; what < 3; what++) {
            Check.due("13: without a law, what " + what, x.shelf(0, 0, what), 70);
        }
        Check.law(x, 0, 0, "a=0");
        Check.law(x, 1, 0, "a");
        Check.due("13: all", x.shelf(0, 0, 0), 70);
        Check.due("13: may be sold", x.shelf(0, 0, 1), 40);
        Check.due("13: may be given, by that law alone", x.shelf(0, 0, 2), 30);
        Check.due("13: the other kind", x.shelf(0, 1, 2), 300);
        Check.due("13: what 3", x.shelf(0, 0, 3), BAD);
        Check.due("13: what -1", x.shelf(0, 0, -1), BAD);
        Check.due("13: shop 2", x.shelf(2, 0, 0), BAD);
        Check.due("13: kind 2", x.shelf(0, 2, 0), BAD);
    }

    public static void main(String[] args) {
        batch();
        ofBatch();
        shelf();
        Check.end("BatchesTest");
    }
}
