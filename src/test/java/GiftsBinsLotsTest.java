/** Promises 33 to 40. */
public final class GiftsBinsLotsTest {
    private static final int BAD = DuskShelves.BAD, NOT = DuskShelves.NOT, FULL = DuskShelves.FULL;

    private GiftsBinsLotsTest() {
    }

    private static DuskShelves small() {
        DuskShelves x = new DuskShelves();
        x.shop(0);
        x.shop(5);
        x.kind(10, 4, 7, 0);
        x.kind(10, 4, 9, 1);
        return x;
    }

    private static void kitchen() {
        DuskShelves x = new DuskShelves();
        Check.due("33: place -1", x.kitchen(-1, 0), BAD);
        Check.due("33: place 10000", x.kitchen(10000, 0), BAD);
        Check.due("33: hour -1", x.kitchen(0, -1), BAD);
        Check.due("33: hour 24", x.kitchen(0, 24), BAD);
        for (int i = 0; i < 10; i++) {
            Check.due("33: kitchen", x.kitchen(9999, i == 0 ? 23 : 0), i);
        }
        Check.due("33: an eleventh", x.kitchen(0, 0), FULL);
        Check.due("33: an eleventh, bad", x.kitchen(0, 24), BAD);
        Check.due("40: KITCHENS", x.count(6), 10);
        Check.due("40: they are no shops", x.count(0), 0);
    }

    private static void gift() {
        DuskShelves x = small();
        x.kitchen(1010, 12);
        x.kitchen(1011, 23);
        x.kitchen(0, 11);
        Check.due("34: there are none", x.gift(0, 0, 0, 1), NOT);
        x.batch(0, 0, 0, 20);
        x.batch(0, 100, 0, 20);
        Check.due("34: no pieces", x.gift(0, 0, 0, 0), BAD);
        Check.due("34: 1000", x.gift(0, 0, 0, 1000), BAD);
        Check.due("34: shop 2", x.gift(2, 0, 0, 1), BAD);
        Check.due("34: kind 2", x.gift(0, 2, 0, 1), BAD);
        Check.due("34: kitchen 3", x.gift(0, 0, 3, 1), BAD);
        Check.due("34: kitchen -1", x.gift(0, 0, -1, 1), BAD);
        x.hours(10);
        Check.due("34: 20 miles are 2 hours: at 12", x.gift(0, 1, 0, 3), 3);
        Check.due("34: 21 miles are 3: too long for a COLD kind", x.gift(0, 1, 1, 3), NOT);
        Check.due("34: not for the other", x.gift(0, 0, 1, 3), 3);
        x.hours(1);
        Check.due("34: too late", x.gift(0, 0, 0, 3), NOT);
        Check.due("34: no way, no hours", x.gift(0, 0, 2, 3), 3);
        x.hours(9);
        Check.due("34: at 23", x.gift(0, 0, 1, 3), 3);
        x.hours(1);
        Check.due("34: not on the next day", x.gift(0, 0, 1, 3), NOT);
        Check.due("40: GIVEN", x.count(11), 12);
        Check.due("39: no coins", x.till(0), 0);
        x.hours(3);
        x.batch(0, 7, 0, 4);
        x.batch(0, 8, 1, 4);
        Check.law(x, 0, 0, "0");
        Check.law(x, 1, 0, "a");
        Check.due("34: what may be given, by that law alone", x.gift(0, 0, 0, 999), 11 + 4);
        Check.due("34: the younger one stays", x.ofBatch(2, 5), 4);
        Check.due("34: there are none that may", x.gift(0, 0, 0, 999), NOT);
        Check.law(x, 1, 0, "1");
        Check.due("34: fewer than are asked for", x.gift(0, 0, 0, 5), 4);
    }

    private static void eldestGiven() {
        DuskShelves x = small();
        x.kitchen(0, 23);
        x.hours(24);
        x.batch(0, 0, 0, 5);
        x.batch(0, 0, 1, 5);
        Check.due("34: two batches", x.gift(0, 0, 0, 6), 6);
        Check.due("34: the eldest first", x.ofBatch(1, 8), 5);
        Check.due("34: then the other", x.ofBatch(0, 8), 1);
    }

    private static void bin() {
        DuskShelves x = small();
        Check.due("35: no batch", x.bin(0, 1, 0), BAD);
        x.batch(0, 0, 0, 10);
        x.batch(0, 100, 0, 999);
        Check.due("35: none", x.bin(0, 0, 0), BAD);
        Check.due("35: 1000", x.bin(1, 1000, 0), BAD);
        Check.due("35: spoiled 2", x.bin(0, 1, 2), BAD);
        Check.due("35: spoiled -1", x.bin(0, 1, -1), BAD);
        Check.due("35: more than are there", x.bin(0, 11, 0), NOT);
        Check.due("35: some", x.bin(0, 4, 0), 6);
        Check.due("35: the rest, spoiled", x.bin(0, 6, 1), 0);
        Check.due("35: no more", x.bin(0, 1, 1), NOT);
        Check.due("12: thrown", x.ofBatch(0, 9), 10);
        Check.due("12: of these spoiled", x.ofBatch(0, 10), 6);
        Check.due("36: grams", x.tossed(0), 70);
        for (int i = 1; i < 400; i++) {
            Check.due("35: bin", x.bin(1, 1, 1), 999 - i);
        }
        Check.due("35: 400 such calls were", x.bin(1, 1, 1), FULL);
        Check.due("37: of so many calls", x.isBad(1, 0, 0), 1);
        Check.due("38: of so many calls", x.since(1, 1), NOT);
        Check.due("35: NOT ahead of FULL", x.bin(1, 999, 1), NOT);
        Check.due("35: BAD ahead of both", x.bin(1, 0, 1), BAD);
        Check.due("35: others may be still", x.bin(1, 600, 0), 0);
        Check.due("36: grams", x.tossed(0), 70 + 999 * 9);
        Check.due("40: THROWN", x.count(12), 1009);
        x.hours(24);
        Check.due("36: of today", x.tossed(1), 0);
        Check.due("36: day -1", x.tossed(-1), BAD);
        Check.due("36: day 1500", x.tossed(1500), BAD);
        Check.due("36: day 1499", x.tossed(1499), 0);
    }

    private static void lots() {
        DuskShelves x = small();
        Check.due("38: nothing came", x.since(0, 7), NOT);
        x.batch(0, 7, 0, 20);
        x.batch(1, 7, 0, 10);
        x.batch(0, 107, 0, 5);
        x.batch(0, 8, 0, 5);
        Check.due("29: moved", x.move(0, 1, 0, 5), 5);
        x.bin(4, 2, 1);
        x.hours(48);
        x.bin(0, 1, 1);
        Check.due("37: just a tenth", x.isBad(0, 7, 2), 0);
        x.bin(3, 2, 1);
        Check.due("37: two of five are fewer than 3", x.isBad(0, 8, 2), 0);
        x.bin(2, 3, 0);
        Check.due("37: thrown, not spoiled", x.isBad(1, 7, 2), 0);
        x.bin(1, 1, 1);
        Check.due("37: more than a tenth", x.isBad(0, 7, 2), 1);
        Check.due("37: not as known ahead", x.isBad(0, 7, 1), 0);
        Check.due("38: since day 2", x.since(0, 7), 2);
        Check.due("37: as known ever on", x.isBad(0, 7, 1499), 1);
        x.hours(24);
        x.batch(1, 7, 3, 10);
        Check.due("37: no more with more that came", x.isBad(0, 7, 3), 0);
        Check.due("37: still as known on day 2", x.isBad(0, 7, 2), 1);
        Check.due("38: the first such day stays", x.since(0, 7), 2);
        x.bin(3, 1, 1);
        Check.due("37: three of five", x.isBad(0, 8, 3), 1);
        Check.due("38: since day 3", x.since(0, 8), 3);
        Check.due("38: another kind", x.since(1, 7), NOT);
        Check.due("37: lot 100", x.isBad(0, 100, 0), BAD);
        Check.due("37: lot -1", x.isBad(0, -1, 0), BAD);
        Check.due("37: kind 2", x.isBad(2, 7, 0), BAD);
        Check.due("37: day 1500", x.isBad(0, 7, 1500), BAD);
        Check.due("37: day -1", x.isBad(0, 7, -1), BAD);
        Check.due("38: lot 100", x.since(0, 100), BAD);
        Check.due("38: kind 2", x.since(2, 0), BAD);
    }

    private static void badBounds() {
        DuskShelves x = small();
        x.batch(0, 0, 0, 29);
        x.batch(0, 1, 0, 30);
        x.batch(0, 2, 0, 9);
        x.move(0, 1, 0, 10);
        int[] pieces = {3, 3, 2};
        for (int lot = 0; lot < 3; lot++) {
            x.bin(lot, pieces[lot], 1);
        }
        Check.due("37: 3 of 29, some of them moved", x.isBad(0, 0, 0), 1);
        Check.due("37: 3 of 30", x.isBad(0, 1, 0), 0);
        Check.due("37: 2 of 9", x.isBad(0, 2, 0), 0);
        x.bin(2, 1, 1);
        Check.due("37: 3 of 9", x.isBad(0, 2, 0), 1);
        Check.due("37: the other kind", x.isBad(1, 2, 0), 0);
        x.batch(0, 100, 0, 9);
        x.bin(4, 9, 1);
        Check.due("37: spoiled of another kind", x.isBad(1, 0, 0), 1);
        Check.due("37: 3 of 30 still", x.isBad(0, 1, 0), 0);
    }

    private static void tillAndCount() {
        DuskShelves x = small();
        Check.due("39: at first", x.till(0), 0);
        Check.due("39: shop 2", x.till(2), BAD);
        Check.due("39: shop -1", x.till(-1), BAD);
        x.batch(0, 0, 0, 30);
        x.kitchen(0, 23);
        x.hours(6);
        x.buy(0, 0, 5);
        x.buy(1, 0, 9);
        x.gift(0, 0, 0, 6);
        x.bin(0, 7, 0);
        x.move(0, 1, 0, 2);
        Check.law(x, 0, 0, "1");
        Check.tape(x, "12345");
        int[] due = {2, 2, 2, 2, 1, 6, 1, 5, 120, 12, 5, 6, 7, 9};
        for (int what = 0; what < 14; what++) {
            Check.due("40: count(" + what + ")", x.count(what), due[what]);
        }
        Check.due("40: count(14)", x.count(14), BAD);
        Check.due("40: count(-1)", x.count(-1), BAD);
        Check.due("39: till", x.till(0), 50);
        Check.due("39: the other till", x.till(1), 0);
    }

    public static void main(String[] args) {
        kitchen();
        gift();
        eldestGiven();
        bin();
        lots();
        badBounds();
        tillAndCount();
        Check.end("GiftsBinsLotsTest");
    }
}
