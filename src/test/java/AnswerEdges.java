import java.util.ArrayList;
import java.util.List;
import java.util.function.Consumer;
import java.util.function.ToLongFunction;

/** What the document says of all answers: which of several, and that such a call changes nothing. */
final class AnswerEdges {
    private static final int BAD = DuskShelves.BAD, NOT = DuskShelves.NOT, FULL = DuskShelves.FULL;
    private static final int BIG = DuskShelves.BIG, VOID = DuskShelves.VOID;

    private AnswerEdges() {
    }

    static void all() {
        Sentence.test(40, "Answers, of several the one named first: BAD (-1): no such shop, kind, batch, kitchen, or "
            + "a number is not as said; NOT (-2): as told; FULL (-3); BIG (-4).", AnswerEdges::theFirstNamed);
        Sentence.test(40, "VOID is -2000000000.", AnswerEdges::voids);
        Sentence.test(40, "What is answered so changes nothing.", AnswerEdges::nothingChanges);
    }

    private static void theFirstNamed() {
        DuskShelves x = Worlds.shops(2, 1, 6);
        x.kitchen(0, 3);
        for (int i = 0; i < 200; i++) {
            x.batch(0, 0, 0, 2);
        }
        x.buy(0, 0, 0);
        Check.due("move: BAD, NOT and FULL", x.move(1, 0, 0, 0), BAD);
        Check.due("move: NOT and FULL", x.move(1, 0, 0, 1), NOT);
        Check.due("move: FULL", x.move(0, 1, 0, 1), FULL);
        Check.due("batch: BAD and FULL", x.batch(0, 0, 2, 1), BAD);
        Check.due("batch: FULL", x.batch(0, 0, 1, 1), FULL);
        Check.due("buy: BAD and NOT", x.buy(0, 0, 1000), BAD);
        Check.due("buy: NOT", x.buy(0, 0, 999), NOT);
        Check.due("cut: BAD and NOT", x.cut(0, 1, 0), BAD);
        Check.due("cut: NOT", x.cut(0, 0, 0), NOT);
        Check.due("gift: BAD and NOT", x.gift(0, 0, 0, 1000), BAD);
        Check.due("gift: NOT", x.gift(0, 0, 0, 999), NOT);
        Check.due("bin: BAD and NOT", x.bin(0, 3, 2), BAD);
        Check.due("bin: NOT", x.bin(0, 3, 1), NOT);
        DuskShelves y = Worlds.shops(12);
        for (int s = 0; s < 11; s++) {
            y.drawn(s, 1);
        }
        Check.due("waiting: BAD, NOT and BIG", y.waiting(0, 0, 1500, 0), VOID);
        Check.due("waiting: NOT and BIG", y.waiting(0, 0, 1499, 0), -1999999999);
        y.drawn(0, 0);
        Check.due("waiting: BIG", y.waiting(0, 0, 1499, 0), -1999999998);
        Check.due("shop: BAD and FULL", y.shop(10000), BAD);
        Check.due("shop: FULL", y.shop(9999), FULL);
    }

    private static void voids() {
        DuskShelves x = Worlds.shops(1);
        Check.due("ofBatch", x.ofBatch(0, 0), -2000000000);
        Check.due("says", x.says(0, 0), -2000000000);
        Check.due("plan", x.plan(0, 0), -2000000000);
        Check.due("waiting", x.waiting(0, 1, 0, 0), -2000000000);
    }

    /** Something of everything, on DAY 1 at 7, in an open HOUR. */
    private static DuskShelves busy() {
        DuskShelves x = Worlds.shops(2);
        x.shop(9999);
        x.kind(60, 70, 20, 1);
        x.kitchen(5, 20);
        x.kitchen(9999, 7);
        x.throwing(0, 3);
        x.throwing(1, 4);
        x.weather(0, 1);
        x.weather(1, 2);
        x.batch(0, 7, 0, 30);
        x.batch(1, 107, 0, 20);
        x.hours(6);
        x.buy(0, 0, 4);
        x.buy(1, 0, 6);
        x.buy(1, 1, 3);
        x.bin(0, 3, 1);
        Check.law(x, 0, 1, "a<3");
        Check.law(x, 1, 0, "a");
        x.hours(25);
        x.batch(0, 8, 1, 9);
        x.move(0, 1, 0, 5);
        x.gift(0, 0, 0, 2);
        x.bin(1, 2, 0);
        x.cut(0, 0, 1);
        x.warm(0, 0, 5);
        x.warm(1, 1, 6);
        x.buy(1, 0, 7);
        x.plan(0, 0);
        x.crates(0, 0, 2);
        x.crates(1, 1, 2);
        x.crates(2, 1, 1);
        x.ways();
        x.drawn(0, 1);
        x.drawn(1, 0);
        Check.tape(x, "1+1");
        return x;
    }

    /** All that can be asked, then what calls tell of that which they change. */
    private static List<Long> probe(DuskShelves x) {
        List<Long> told = new ArrayList<>();
        for (int what = 0; what <= 13; what++) told.add((long) x.count(what));
        for (int hour = 6; hour <= 20; hour++) told.add((long) x.planned(hour));
        for (int i = 0; i <= 6; i++) told.add((long) x.comes(i));
        told.add((long) x.left());
        for (int s = 0; s < 3; s++) {
            told.add((long) x.till(s));
            for (int k = 0; k < 2; k++) {
                told.add((long) x.step(s, k));
                for (int what = 0; what <= 2; what++) told.add((long) x.shelf(s, k, what));
                told.add((long) x.early(s, k, 0, 9));
                told.add((long) x.foretold(s, k, 601, 9));
                told.add(x.loss(s, k, 12, 9, 9));
            }
        }
        int batches = x.count(2);
        for (int b = 0; b < 4; b++) {
            for (int what = 4; what <= 10; what++) told.add((long) x.ofBatch(b, what));
        }
        for (int what = 0; what <= 12; what++) told.add((long) x.ofBatch(batches - 1, what));
        for (int day = 0; day < 3; day++) {
            told.add((long) x.tossed(day));
            for (int use = 0; use <= 1; use++) told.add((long) x.inForce(use, day, 1));
            told.add((long) x.isBad(0, 7, day));
        }
        for (int what = 0; what <= 1; what++) told.add((long) x.waiting(0, 0, 9, what));
        told.add((long) x.since(0, 7));
        told.add((long) x.priceAt(1, 0));
        changing(x, told);
        return told;
    }

    private static void changing(DuskShelves x, List<Long> told) {
        told.add((long) x.law(0, 0));
        told.add((long) x.says(2, 0));
        told.add((long) x.ways());
        for (int i = 0; i <= 3; i++) told.add((long) x.comes(i));
        for (int s = 0; s < 3; s++) {
            for (int what = 0; what <= 1; what++) told.add((long) x.crates(s, what, 0));
            for (int k = 0; k < 2; k++) told.add((long) x.warm(s, k, 0));
            told.add((long) x.drawn(s, -1));
        }
        for (int k = 0; k < 2; k++) told.add((long) x.throwing(k, 0));
        for (int day = 0; day < 3; day++) told.add((long) x.weather(day, 0));
        told.add((long) x.shop(0));
        told.add((long) x.kind(1, 1, 1, 0));
        told.add((long) x.kitchen(0, 0));
        told.add((long) x.batch(0, 0, 0, 1));
        told.add((long) x.bin(0, 1, 1));
        told.add((long) x.buy(0, 0, 1));
        told.add((long) x.hours(1));
    }

    /** An object that had the call and one that had not answer alike. */
    private static void leavesNoTrace(String call, long due, ToLongFunction<DuskShelves> refused,
            Consumer<DuskShelves> filled) {
        DuskShelves x = busy();
        DuskShelves y = busy();
        filled.accept(x);
        filled.accept(y);
        Check.due(call, refused.applyAsLong(x), due);
        List<Long> had = probe(x);
        List<Long> hadNot = probe(y);
        for (int i = 0; i < hadNot.size(); i++) {
            Check.due(call + ", then answer " + i + " of all", had.get(i), hadNot.get(i));
        }
    }

    private static void leavesNoTrace(String call, long due, ToLongFunction<DuskShelves> refused) {
        leavesNoTrace(call, due, refused, x -> { });
    }

    private static void nothingChanges() {
        badOfShops();
        badOfBatches();
        badOfBuyers();
        badOfOthers();
        notAsTold();
        full();
        fullOfSpoiled();
    }

    private static void badOfShops() {
        leavesNoTrace("shop(10000)", BAD, x -> x.shop(10000));
        leavesNoTrace("kind(0, 1, 1, 0)", BAD, x -> x.kind(0, 1, 1, 0));
        leavesNoTrace("kind(1, -1, 1, 0)", BAD, x -> x.kind(1, -1, 1, 0));
        leavesNoTrace("kind(1, 1, 0, 0)", BAD, x -> x.kind(1, 1, 0, 0));
        leavesNoTrace("kind(1, 1, 1, 2)", BAD, x -> x.kind(1, 1, 1, 2));
        leavesNoTrace("priceAt(0, 4)", BAD, x -> x.priceAt(0, 4));
        leavesNoTrace("throwing(0, 10000)", BAD, x -> x.throwing(0, 10000));
        leavesNoTrace("throwing(2, 1)", BAD, x -> x.throwing(2, 1));
        leavesNoTrace("weather(1, 3)", BAD, x -> x.weather(1, 3));
        leavesNoTrace("weather(1500, 0)", BAD, x -> x.weather(1500, 0));
        leavesNoTrace("hours(0)", BAD, x -> x.hours(0));
        leavesNoTrace("hours(241)", BAD, x -> x.hours(241));
        leavesNoTrace("cut(0, 0, 4)", BAD, x -> x.cut(0, 0, 4));
        leavesNoTrace("cut(0, 2, 2)", BAD, x -> x.cut(0, 2, 2));
        leavesNoTrace("step(3, 0)", BAD, x -> x.step(3, 0));
        leavesNoTrace("warm(0, 0, 25)", BAD, x -> x.warm(0, 0, 25));
        leavesNoTrace("warm(3, 0, 1)", BAD, x -> x.warm(3, 0, 1));
    }

    private static void badOfBatches() {
        leavesNoTrace("batch(3, 7, 0, 1)", BAD, x -> x.batch(3, 7, 0, 1));
        leavesNoTrace("batch(0, 200, 0, 1)", BAD, x -> x.batch(0, 200, 0, 1));
        leavesNoTrace("batch(0, 7, 2, 1)", BAD, x -> x.batch(0, 7, 2, 1));
        leavesNoTrace("batch(0, 7, 0, 1000)", BAD, x -> x.batch(0, 7, 0, 1000));
        leavesNoTrace("ofBatch(9, 0)", VOID, x -> x.ofBatch(9, 0));
        leavesNoTrace("shelf(0, 0, 3)", BAD, x -> x.shelf(0, 0, 3));
        leavesNoTrace("end(4)", BAD, x -> x.end(4));
        leavesNoTrace("end(-1)", BAD, x -> x.end(-1));
        leavesNoTrace("law(2, 0)", BAD, x -> x.law(2, 0));
        leavesNoTrace("law(0, 1500)", BAD, x -> x.law(0, 1500));
        leavesNoTrace("inForce(2, 0, 0)", BAD, x -> x.inForce(2, 0, 0));
        leavesNoTrace("says(2, 0)", VOID, x -> x.says(2, 0));
        leavesNoTrace("bin(9, 1, 1)", BAD, x -> x.bin(9, 1, 1));
        leavesNoTrace("bin(0, 0, 1)", BAD, x -> x.bin(0, 0, 1));
        leavesNoTrace("bin(0, 1, 2)", BAD, x -> x.bin(0, 1, 2));
    }

    private static void badOfBuyers() {
        leavesNoTrace("buy(0, 0, 1000)", BAD, x -> x.buy(0, 0, 1000));
        leavesNoTrace("buy(0, 2, 1)", BAD, x -> x.buy(0, 2, 1));
        leavesNoTrace("foretold(0, 0, 603, 0)", BAD, x -> x.foretold(0, 0, 603, 0));
        leavesNoTrace("plan(0, 2)", VOID, x -> x.plan(0, 2));
        leavesNoTrace("planned(6)", BAD, x -> x.planned(6));
        leavesNoTrace("order(0, 0, 70, 0)", BAD, x -> x.order(0, 0, 70, 0));
        leavesNoTrace("loss(0, 0, 0, 0, 1000)", BAD, x -> x.loss(0, 0, 0, 0, 1000));
        leavesNoTrace("move(0, 0, 0, 1)", BAD, x -> x.move(0, 0, 0, 1));
        leavesNoTrace("move(0, 3, 0, 1)", BAD, x -> x.move(0, 3, 0, 1));
        leavesNoTrace("move(0, 1, 0, 0)", BAD, x -> x.move(0, 1, 0, 0));
    }

    private static void badOfOthers() {
        leavesNoTrace("crates(0, 0, 4)", BAD, x -> x.crates(0, 0, 4));
        leavesNoTrace("crates(0, 2, 1)", BAD, x -> x.crates(0, 2, 1));
        leavesNoTrace("comes(3)", BAD, x -> x.comes(3));
        leavesNoTrace("drawn(0, 2)", -2, x -> x.drawn(0, 2));
        leavesNoTrace("early(0, 0, 1, 0)", BAD, x -> x.early(0, 0, 1, 0));
        leavesNoTrace("waiting(0, 1, 0, 1)", VOID, x -> x.waiting(0, 1, 0, 1));
        leavesNoTrace("kitchen(0, 24)", BAD, x -> x.kitchen(0, 24));
        leavesNoTrace("kitchen(10000, 0)", BAD, x -> x.kitchen(10000, 0));
        leavesNoTrace("gift(0, 0, 2, 1)", BAD, x -> x.gift(0, 0, 2, 1));
        leavesNoTrace("gift(0, 0, 0, 0)", BAD, x -> x.gift(0, 0, 0, 0));
        leavesNoTrace("tossed(1500)", BAD, x -> x.tossed(1500));
        leavesNoTrace("isBad(0, 100, 0)", BAD, x -> x.isBad(0, 100, 0));
        leavesNoTrace("since(0, 100)", BAD, x -> x.since(0, 100));
        leavesNoTrace("till(3)", BAD, x -> x.till(3));
        leavesNoTrace("count(14)", BAD, x -> x.count(14));
    }

    private static void notAsTold() {
        leavesNoTrace("cut(0, 0, 1)", NOT, x -> x.cut(0, 0, 1));
        leavesNoTrace("cut(0, 0, 0)", NOT, x -> x.cut(0, 0, 0));
        leavesNoTrace("inForce(0, 0, 0)", NOT, x -> x.inForce(0, 0, 0));
        leavesNoTrace("buy(1, 0, 9), there is the ROW", NOT, x -> x.buy(1, 0, 9));
        leavesNoTrace("plan(1, 0), there is the ROW", VOID, x -> x.plan(1, 0));
        leavesNoTrace("buy(0, 0, 9), closed", NOT, x -> x.buy(0, 0, 9), x -> x.hours(13));
        leavesNoTrace("plan(0, 0), closed", VOID, x -> x.plan(0, 0), x -> x.hours(13));
        leavesNoTrace("hours(240), beyond", BAD, x -> x.hours(240), x -> Worlds.until(x, 1499, 20));
        leavesNoTrace("move(2, 0, 0, 1)", NOT, x -> x.move(2, 0, 0, 1));
        leavesNoTrace("gift(0, 0, 1, 1), too late", NOT, x -> x.gift(0, 0, 1, 1));
        leavesNoTrace("gift(2, 0, 1, 1), there are none", NOT, x -> x.gift(2, 0, 1, 1));
        leavesNoTrace("gift(1, 1, 2, 1), too long", NOT, x -> x.gift(1, 1, 2, 1), x -> x.kitchen(21, 23));
        leavesNoTrace("bin(0, 999, 1)", NOT, x -> x.bin(0, 999, 1));
        leavesNoTrace("since(0, 8)", NOT, x -> x.since(0, 8));
        leavesNoTrace("comes(2)", NOT, x -> x.comes(2));
        leavesNoTrace("waiting without some of both", -1999999999, x -> x.waiting(0, 0, 9, 1), x -> x.drawn(0, 0));
    }

    private static void full() {
        leavesNoTrace("a thirteenth SHOP", FULL, x -> x.shop(7), x -> {
            for (int i = 3; i < 12; i++) x.shop(5);
        });
        leavesNoTrace("an eleventh KIND", FULL, x -> x.kind(7, 7, 7, 1), x -> {
            for (int i = 2; i < 10; i++) x.kind(5, 5, 5, 0);
        });
        leavesNoTrace("an eleventh KITCHEN", FULL, x -> x.kitchen(7, 7), x -> {
            for (int i = 2; i < 10; i++) x.kitchen(5, 5);
        });
        leavesNoTrace("BATCH 200", FULL, x -> x.batch(0, 7, 0, 9), AnswerEdges::fillWithBatches);
        leavesNoTrace("a move into BATCH 200", FULL, x -> x.move(0, 2, 0, 9), AnswerEdges::fillWithBatches);
        leavesNoTrace("byte 161", FULL, x -> x.feed(7, 7, 7, 7, 7), x -> Check.tape(x, "1+".repeat(79) + "11"));
        leavesNoTrace("LAW 16", FULL, x -> x.law(0, 0), x -> {
            for (int i = 2; i < 16; i++) Check.law(x, 1, 9, "1");
            Check.tape(x, "1+1");
        });
        leavesNoTrace("7 of NEED", BIG, x -> x.ways(), x -> {
            x.crates(0, 1, 3);
            x.crates(1, 1, 3);
        });
        leavesNoTrace("11 SHOPS drawn", -1999999998, x -> x.waiting(0, 0, 9, 1), x -> {
            for (int i = 3; i < 12; i++) x.shop(5);
            for (int i = 2; i < 11; i++) x.drawn(i, 1);
        });
    }

    private static void fillWithBatches(DuskShelves x) {
        for (int i = x.count(2); i < 200; i++) x.batch(2, 7, 1, 5);
    }

    private static void fullOfSpoiled() {
        DuskShelves x = Worlds.shops(1);
        x.batch(0, 0, 0, 999);
        for (int i = 0; i < 400; i++) x.bin(0, 1, 1);
        Check.due("call 401 of those that tell of SPOILED", x.bin(0, 7, 1), FULL);
        Check.due("on the shelf", x.shelf(0, 0, 0), 599);
        Check.due("THROWN", x.count(12), 400);
        Check.due("SPOILED", x.ofBatch(0, 10), 400);
        Check.due("GRAMS", x.tossed(0), 4000);
    }
}
