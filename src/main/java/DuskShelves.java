import java.util.Arrays;

/**
 * Small shops whose bread, fish and flowers are worth nothing tomorrow.
 *
 * <p>Words in capitals are those of the document, ../shared/DOC.md, which says what each call does.
 */
public final class DuskShelves {
    public static final int BAD = -1, NOT = -2, FULL = -3, BIG = -4, VOID = -2000000000;

    private static final int WAITING_NOT = -1999999999, WAITING_BIG = -1999999998, DRAWN_BAD = -2;

    private static final int HOURS_A_DAY = 24, LAST_HOUR = 35999, DAYS = 1500, DAYS_A_WEEK = 7;
    private static final int OPENS = 6, LAST_EARLY = 13, CLOSES = 19, OPEN_HOURS = 14;
    private static final int MOST_AT_ONCE = 240, OLDEST = 9;

    private static final int SHOPS = 12, KINDS = 10, KITCHENS = 10, LOTS = 100, LAWS = 16;
    private static final int BATCHES = 200, ROWS = 600, SPOILS = 400;
    private static final int STEPS = 4, WEATHERS = 3, PIECES_MOST = 999, COINS_MOST = 9999;
    private static final int PLACES = 10000, SIDE = 100;

    private static final int SELL = 0, GIVE = 1;
    private static final int NOT_DRAWN = -1, DRAWN_MOST = 10;
    private static final int CRATES_MOST = 3, NEED_MOST = 6;
    private static final int MILES_AN_HOUR = 10, COLD_HOURS = 2;
    private static final int TAPE = 160, CALL_BYTES = 20, FAULTS = -100, FINE = -1;

    // The columns of a BATCH: the first thirteen as ofBatch tells them, then the DAY when it came.
    private static final int SHOP = 0, KIND = 1, LOT = 2, MADE = 3, PIECES = 4, SHELF = 5, SOLD = 6;
    private static final int MOVED = 7, GIVEN = 8, THROWN = 9, SPOILED = 10, FROM = 11, FIRST = 12;
    private static final int CAME = 13, COLUMNS = 14;

    private final Days days = new Days();
    private final Shops shops = new Shops();
    private final Kinds kinds = new Kinds();
    private final Batches batches = new Batches();
    private final Tape tape = new Tape();
    private final Laws laws = new Laws();
    private final Facts facts = new Facts();
    private final Rows rows = new Rows();
    private final Cuts cuts = new Cuts();
    private final Crates boxes = new Crates();
    private final Places kitchens = new Places(KITCHENS);
    private final int[] takesUntil = new int[KITCHENS];
    private final int[] earlySums = new int[DRAWN_MOST];
    private int ordersCost = 0;

    public DuskShelves() {
    }

    // ---- shops, kinds, time

    public int shop(int place) {
        if (!isBelow(place, PLACES)) {
            return BAD;
        }
        return shops.places.add(place);
    }

    public int kind(int price, int cost, int grams, int cold) {
        if (!isFrom(1, price, COINS_MOST) || !isFrom(0, cost, COINS_MOST)) {
            return BAD;
        }
        if (!isFrom(1, grams, COINS_MOST) || !isFrom(0, cold, 1)) {
            return BAD;
        }
        return kinds.add(price, cost, grams, cold);
    }

    public int priceAt(int kind, int step) {
        if (!kinds.has(kind) || !isBelow(step, STEPS)) {
            return BAD;
        }
        return kinds.coinsAt(kind, step);
    }

    public int throwing(int kind, int v) {
        if (!kinds.has(kind) || !isFrom(0, v, COINS_MOST)) {
            return BAD;
        }
        int was = kinds.throwCost[kind];
        kinds.throwCost[kind] = v;
        return was;
    }

    public int weather(int day, int v) {
        if (!isBelow(day, DAYS) || !isBelow(v, WEATHERS)) {
            return BAD;
        }
        int was = days.weather[day];
        days.weather[day] = v;
        return was;
    }

    public int hours(int n) {
        if (!isFrom(1, n, MOST_AT_ONCE) || n > LAST_HOUR - days.hour) {
            return BAD;
        }
        for (int i = 0; i < n; i++) {
            days.hour++;
            if (days.hourOfDay() == 0) {
                beginDay();
            }
        }
        return days.hour;
    }

    public int cut(int shop, int kind, int step) {
        if (!hasBoth(shop, kind) || !isBelow(step, STEPS)) {
            return BAD;
        }
        int was = shops.step[shop][kind];
        if (step <= was) {
            return NOT;
        }
        shops.step[shop][kind] = step;
        return was;
    }

    public int step(int shop, int kind) {
        if (!hasBoth(shop, kind)) {
            return BAD;
        }
        return shops.step[shop][kind];
    }

    public int warm(int shop, int kind, int n) {
        if (!hasBoth(shop, kind) || !isFrom(0, n, HOURS_A_DAY)) {
            return BAD;
        }
        int was = shops.warm[shop][kind];
        shops.warm[shop][kind] = n;
        return was;
    }

    // ---- batches

    public int batch(int shop, int what, int made, int pieces) {
        if (what < 0 || !hasBoth(shop, what / LOTS)) {
            return BAD;
        }
        int today = days.today();
        if (!isFrom(0, made, OLDEST) || made > today || !isFrom(1, pieces, PIECES_MOST)) {
            return BAD;
        }
        if (batches.room() == 0) {
            return FULL;
        }
        int number = batches.add(shop, what, today - made, pieces);
        batches.of[number][CAME] = today;
        ordersCost += pieces * kinds.cost[what / LOTS];
        return number;
    }

    public int ofBatch(int batch, int what) {
        if (!batches.has(batch) || !isFrom(SHOP, what, FIRST)) {
            return VOID;
        }
        return batches.of[batch][what];
    }

    public int shelf(int shop, int kind, int what) {
        if (!hasBoth(shop, kind) || !isFrom(0, what, 2)) {
            return BAD;
        }
        if (what == 0) {
            return batches.onShelf(shop, kind);
        }
        return lineUp(shop, kind, what == 1 ? SELL : GIVE);
    }

    // ---- laws

    public int feed(int a, int b, int c, int d, int e) {
        if (tape.length > TAPE - CALL_BYTES) {
            return FULL;
        }
        tape.take(a);
        tape.take(b);
        tape.take(c);
        tape.take(d);
        tape.take(e);
        return tape.length;
    }

    public int end(int n) {
        if (!isFrom(0, n, tape.length)) {
            return BAD;
        }
        tape.length = n;
        return n;
    }

    public int law(int use, int from) {
        if (!isFrom(SELL, use, GIVE) || !isBelow(from, DAYS)) {
            return BAD;
        }
        if (laws.n >= LAWS) {
            return FULL;
        }
        int fault = tape.read(laws.code[laws.n]);
        tape.length = 0;
        if (fault != FINE) {
            return FAULTS - fault;
        }
        return laws.add(tape.words, use, from, days.today());
    }

    public int inForce(int use, int day, int k) {
        if (!isFrom(SELL, use, GIVE) || !isBelow(day, DAYS) || !isBelow(k, DAYS)) {
            return BAD;
        }
        return laws.latest(use, day, k);
    }

    public int says(int law, int batch) {
        if (!isBelow(law, laws.n) || !batches.has(batch)) {
            return VOID;
        }
        return askOf(law, batch);
    }

    // ---- buyers

    public int buy(int shop, int kind, int n) {
        if (!hasBoth(shop, kind) || !isFrom(0, n, PIECES_MOST)) {
            return BAD;
        }
        if (!mayTell(shop, kind)) {
            return NOT;
        }
        if (rows.n >= ROWS) {
            return FULL;
        }
        lineUp(shop, kind, SELL);
        int bought = batches.takeFromLine(n, SOLD);
        int step = shops.step[shop][kind];
        shops.till[shop] += bought * kinds.coinsAt(kind, step);
        int row = rows.add(shop, kind, days.hour);
        rows.step[row] = step;
        rows.weather[row] = days.weatherNow();
        rows.asked[row] = n;
        rows.bought[row] = bought;
        return bought;
    }

    public int foretold(int shop, int kind, int what, int k) {
        if (!hasBoth(shop, kind) || what < 0 || !isBelow(k, DAYS)) {
            return BAD;
        }
        int hour = what / 100;
        int step = what / 10 % 10;
        int weather = what % 10;
        if (!isFrom(OPENS, hour, CLOSES) || !isBelow(step, STEPS) || !isBelow(weather, WEATHERS)) {
            return BAD;
        }
        return rows.foretell(shop, kind, hour, step, weather, k);
    }

    public int plan(int shop, int kind) {
        if (!hasBoth(shop, kind) || !mayTell(shop, kind)) {
            return VOID;
        }
        int weather = days.weatherNow();
        for (int step = 0; step < STEPS; step++) {
            cuts.price[step] = kinds.coinsAt(kind, step);
            for (int i = 0; i < OPEN_HOURS; i++) {
                cuts.asked[i][step] = rows.foretell(shop, kind, OPENS + i, step, weather, days.today());
            }
        }
        int stock = lineUp(shop, kind, SELL);
        return cuts.search(days.hourOfDay(), shops.step[shop][kind], stock, kinds.throwCost[kind]);
    }

    public int planned(int hour) {
        if (!cuts.found || !isFrom(cuts.from, hour, CLOSES)) {
            return BAD;
        }
        return cuts.best[hour - OPENS];
    }

    public int left() {
        return cuts.found ? cuts.rest : BAD;
    }

    // ---- orders, crates

    public int order(int shop, int kind, int what, int k) {
        if (!isMorning(shop, kind, what, k)) {
            return BAD;
        }
        rows.sumDays(shop, kind, what / 10, what % 10, k);
        return rows.leastLoss(kinds.lackCost(kind), kinds.wasteCost(kind));
    }

    public long loss(int shop, int kind, int what, int k, int q) {
        if (!isMorning(shop, kind, what, k) || !isFrom(0, q, PIECES_MOST)) {
            return BAD;
        }
        rows.sumDays(shop, kind, what / 10, what % 10, k);
        return rows.lossOf(q, kinds.lackCost(kind), kinds.wasteCost(kind));
    }

    public int crates(int shop, int what, int n) {
        if (!shops.places.has(shop) || !isFrom(0, what, 1) || !isFrom(0, n, CRATES_MOST)) {
            return BAD;
        }
        int[] told = what == 0 ? boxes.spare : boxes.need;
        int was = told[shop];
        told[shop] = n;
        return was;
    }

    public int ways() {
        if (boxes.allNeed() > NEED_MOST) {
            return BIG;
        }
        return boxes.search(shops.places);
    }

    public int comes(int i) {
        if (!isBelow(i, boxes.n)) {
            return BAD;
        }
        return boxes.from[i] == Crates.NOBODY ? NOT : boxes.from[i];
    }

    public int move(int shop, int to, int kind, int n) {
        if (!hasBoth(shop, kind) || !shops.places.has(to) || shop == to) {
            return BAD;
        }
        if (!isFrom(1, n, PIECES_MOST)) {
            return BAD;
        }
        if (lineUp(shop, kind, SELL) == 0) {
            return NOT;
        }
        if (batches.touchedBy(n) > batches.room()) {
            return FULL;
        }
        return batches.moveFromLine(n, to);
    }

    // ---- waiting

    public int drawn(int shop, int is) {
        if (!shops.places.has(shop) || !isFrom(NOT_DRAWN, is, 1)) {
            return DRAWN_BAD;
        }
        int was = shops.drawn[shop];
        shops.drawn[shop] = is;
        return was;
    }

    public int early(int shop, int kind, int a, int b) {
        if (!hasBoth(shop, kind) || !areDays(a, b)) {
            return BAD;
        }
        return rows.askedEarly(shop, kind, a, b);
    }

    public int waiting(int kind, int a, int b, int what) {
        if (!kinds.has(kind) || !areDays(a, b) || !isFrom(0, what, 1)) {
            return VOID;
        }
        int yes = shops.howManyDrawn(1);
        int no = shops.howManyDrawn(0);
        if (yes == 0 || no == 0) {
            return WAITING_NOT;
        }
        if (yes + no > DRAWN_MOST) {
            return WAITING_BIG;
        }
        int mask = sumDrawn(kind, a, b);
        return what == 0 ? gapOf(mask, yes, no) : doubtOf(mask, yes, yes + no);
    }

    // ---- gifts, bins, lots

    public int kitchen(int place, int hour) {
        if (!isBelow(place, PLACES) || !isBelow(hour, HOURS_A_DAY)) {
            return BAD;
        }
        int number = kitchens.add(place);
        if (number >= 0) {
            takesUntil[number] = hour;
        }
        return number;
    }

    public int gift(int shop, int kind, int kitchen, int n) {
        if (!hasBoth(shop, kind) || !kitchens.has(kitchen) || !isFrom(1, n, PIECES_MOST)) {
            return BAD;
        }
        int miles = shops.places.milesTo(shop, kitchens, kitchen);
        int onTheWay = (miles + MILES_AN_HOUR - 1) / MILES_AN_HOUR;
        if (days.hourOfDay() + onTheWay > takesUntil[kitchen]) {
            return NOT;
        }
        if (kinds.cold[kind] == 1 && onTheWay > COLD_HOURS) {
            return NOT;
        }
        if (lineUp(shop, kind, GIVE) == 0) {
            return NOT;
        }
        return batches.takeFromLine(n, GIVEN);
    }

    public int bin(int batch, int n, int spoiled) {
        if (!batches.has(batch) || !isFrom(1, n, PIECES_MOST) || !isFrom(0, spoiled, 1)) {
            return BAD;
        }
        if (n > batches.of[batch][SHELF]) {
            return NOT;
        }
        if (spoiled == 1) {
            if (batches.spoils >= SPOILS) {
                return FULL;
            }
            batches.noteSpoiled(batch, n, days.today());
        }
        toss(batch, n);
        return batches.of[batch][SHELF];
    }

    public int tossed(int day) {
        if (!isBelow(day, DAYS)) {
            return BAD;
        }
        return days.grams[day];
    }

    public int isBad(int kind, int lot, int k) {
        if (!kinds.has(kind) || !isBelow(lot, LOTS) || !isBelow(k, DAYS)) {
            return BAD;
        }
        return batches.isBadLot(kind * LOTS + lot, k) ? 1 : 0;
    }

    public int since(int kind, int lot) {
        if (!kinds.has(kind) || !isBelow(lot, LOTS)) {
            return BAD;
        }
        return batches.badSince(kind * LOTS + lot);
    }

    public int till(int shop) {
        if (!shops.places.has(shop)) {
            return BAD;
        }
        return shops.till[shop];
    }

    public int count(int what) {
        switch (what) {
            case 0: return shops.places.n;
            case 1: return kinds.n;
            case 2: return batches.n;
            case 3: return rows.n;
            case 4: return laws.n;
            case 5: return days.hour;
            case 6: return kitchens.n;
            case 7: return tape.length;
            case 8: return ordersCost;
            case 9: return batches.total(SHELF);
            case 10: return batches.total(SOLD);
            case 11: return batches.total(GIVEN);
            case 12: return batches.total(THROWN);
            case 13: return rows.lackInAll();
            default: return BAD;
        }
    }

    // ---- what several calls need

    private static boolean isBelow(int v, int bound) {
        return v >= 0 && v < bound;
    }

    private static boolean isFrom(int low, int v, int high) {
        return v >= low && v <= high;
    }

    private static boolean areDays(int a, int b) {
        return a >= 0 && a <= b && b < DAYS;
    }

    private boolean hasBoth(int shop, int kind) {
        return shops.places.has(shop) && kinds.has(kind);
    }

    /** Whether BUYERS may still be told of, or planned for, in this HOUR. */
    private boolean mayTell(int shop, int kind) {
        return days.isOpen() && !rows.has(shop, kind, days.hour);
    }

    private boolean isMorning(int shop, int kind, int what, int k) {
        if (!hasBoth(shop, kind) || !isBelow(k, DAYS)) {
            return false;
        }
        return isBelow(what, 10 * DAYS_A_WEEK) && what % 10 < WEATHERS;
    }

    private int askOf(int law, int batch) {
        int[] its = batches.of[batch];
        facts.age = days.today() - its[MADE];
        facts.kind = its[KIND];
        facts.cold = kinds.cold[its[KIND]];
        facts.weather = days.weatherNow();
        facts.hour = days.hourOfDay();
        facts.step = shops.step[its[SHOP]][its[KIND]];
        facts.warm = shops.warm[its[SHOP]][its[KIND]];
        facts.shop = its[SHOP];
        return laws.valueOf(law, facts);
    }

    private int lawToday(int use) {
        return laws.latest(use, days.today(), days.today());
    }

    /** Without a LAW all goes. */
    private boolean lets(int law, int batch) {
        return law < 0 || askOf(law, batch) != 0;
    }

    /** Lines up, eldest first, what a USE lets go of a SHOP's KIND; answers how many pieces. */
    private int lineUp(int shop, int kind, int use) {
        int law = lawToday(use);
        int pieces = 0;
        batches.lined = 0;
        for (int b = 0; b < batches.n; b++) {
            int[] its = batches.of[b];
            boolean here = its[SHOP] == shop && its[KIND] == kind && its[SHELF] > 0;
            if (here && lets(law, b)) {
                batches.addToLine(b);
                pieces += its[SHELF];
            }
        }
        return pieces;
    }

    private void beginDay() {
        // The LAW is asked below with the STEPS and WARM HOURS of the new DAY.
        shops.clearDay();
        int law = lawToday(SELL);
        for (int b = 0; b < batches.n; b++) {
            int pieces = batches.of[b][SHELF];
            if (pieces > 0 && !lets(law, b)) {
                toss(b, pieces);
            }
        }
    }

    private void toss(int batch, int pieces) {
        batches.take(batch, pieces, THROWN);
        days.grams[days.today()] += pieces * kinds.grams[batches.of[batch][KIND]];
    }

    /** Puts EARLY of the SHOPS that were drawn in a row; answers which of these are CUT, a bit each. */
    private int sumDrawn(int kind, int a, int b) {
        int mask = 0;
        int at = 0;
        for (int s = 0; s < shops.places.n && at < DRAWN_MOST; s++) {
            if (shops.drawn[s] != NOT_DRAWN) {
                earlySums[at] = rows.askedEarly(s, kind, a, b);
                mask |= shops.drawn[s] << at;
                at++;
            }
        }
        return mask;
    }

    private int earlyOf(int mask) {
        int sum = 0;
        for (int i = 0; i < DRAWN_MOST; i++) {
            if ((mask >> i & 1) == 1) {
                sum += earlySums[i];
            }
        }
        return sum;
    }

    private int gapOf(int mask, int yes, int no) {
        int pairs = yes * no;
        if (pairs <= 0) {
            return WAITING_NOT;
        }
        long cutSum = earlyOf(mask);
        long otherSum = earlyOf(((1 << yes + no) - 1) & ~mask);
        return (int) (100 * (otherSum * yes - cutSum * no) / pairs);
    }

    /** The less the CUT ones sell early, the greater GAP: their sums tell which draws are as far apart. */
    private int doubtOf(int mask, int yes, int all) {
        int cutSum = earlyOf(mask);
        int draws = 0;
        int asFar = 0;
        for (int m = 0; m < 1 << all; m++) {
            if (Integer.bitCount(m) == yes) {
                draws++;
                if (earlyOf(m) <= cutSum) {
                    asFar++;
                }
            }
        }
        return draws == 0 ? WAITING_NOT : (10000 * asFar + draws - 1) / draws;
    }

    /** The HOUR, and what is told or counted of each DAY. */
    private static final class Days {
        final int[] weather = new int[DAYS];
        final int[] grams = new int[DAYS];
        int hour = 0;

        int today() {
            return hour / HOURS_A_DAY;
        }

        int hourOfDay() {
            return hour % HOURS_A_DAY;
        }

        boolean isOpen() {
            return isFrom(OPENS, hourOfDay(), CLOSES);
        }

        int weatherNow() {
            return weather[today()];
        }
    }

    /** Places in the order in which they came: of the SHOPS, or of the KITCHENS. */
    private static final class Places {
        final int[] at;
        int n = 0;

        Places(int most) {
            at = new int[Math.max(0, most)];
        }

        boolean has(int i) {
            return isBelow(i, n);
        }

        int add(int place) {
            if (n >= at.length) {
                return FULL;
            }
            at[n] = place;
            n++;
            return n - 1;
        }

        int milesTo(int i, Places others, int j) {
            int x = at[i] / SIDE - others.at[j] / SIDE;
            int y = at[i] % SIDE - others.at[j] % SIDE;
            return Math.abs(x) + Math.abs(y);
        }
    }

    /** What is kept of each SHOP, and of its KINDS on this DAY. */
    private static final class Shops {
        final Places places = new Places(SHOPS);
        final int[] till = new int[SHOPS];
        final int[] drawn = new int[SHOPS];
        final int[][] step = new int[SHOPS][KINDS];
        final int[][] warm = new int[SHOPS][KINDS];

        Shops() {
            Arrays.fill(drawn, NOT_DRAWN);
        }

        void clearDay() {
            for (int s = 0; s < SHOPS; s++) {
                Arrays.fill(step[s], 0);
                Arrays.fill(warm[s], 0);
            }
        }

        int howManyDrawn(int is) {
            int found = 0;
            for (int s = 0; s < places.n; s++) {
                if (drawn[s] == is) {
                    found++;
                }
            }
            return found;
        }
    }

    private static final class Kinds {
        final int[] price = new int[KINDS];
        final int[] cost = new int[KINDS];
        final int[] grams = new int[KINDS];
        final int[] cold = new int[KINDS];
        final int[] throwCost = new int[KINDS];
        int n = 0;

        boolean has(int kind) {
            return isBelow(kind, n);
        }

        int add(int itsPrice, int itsCost, int itsGrams, int itsCold) {
            if (n >= KINDS) {
                return FULL;
            }
            price[n] = itsPrice;
            cost[n] = itsCost;
            grams[n] = itsGrams;
            cold[n] = itsCold;
            n++;
            return n - 1;
        }

        int coinsAt(int kind, int step) {
            return price[kind] * (STEPS - step) / STEPS;
        }

        int lackCost(int kind) {
            return Math.max(0, price[kind] - cost[kind]);
        }

        int wasteCost(int kind) {
            return cost[kind] + throwCost[kind];
        }
    }

    /** The BATCHES, a line of them to be taken from, and the calls by which pieces were EARLY SPOILED. */
    private static final class Batches {
        final int[][] of = new int[BATCHES][COLUMNS];
        int n = 0;
        final int[] line = new int[BATCHES];
        int lined = 0;
        // Of each such call: 100 times the KIND and the LOT, pieces, DAY.
        final int[] spoilWhat = new int[SPOILS];
        final int[] spoilPieces = new int[SPOILS];
        final int[] spoilDay = new int[SPOILS];
        int spoils = 0;

        boolean has(int b) {
            return isBelow(b, n);
        }

        int room() {
            return BATCHES - n;
        }

        int add(int shop, int what, int made, int pieces) {
            if (n >= BATCHES) {
                return FULL;
            }
            int[] its = of[n];
            its[SHOP] = shop;
            its[KIND] = what / LOTS;
            its[LOT] = what % LOTS;
            its[MADE] = made;
            its[PIECES] = pieces;
            its[SHELF] = pieces;
            its[FROM] = -1;
            its[FIRST] = n;
            n++;
            return n - 1;
        }

        void take(int b, int pieces, int column) {
            of[b][SHELF] -= pieces;
            of[b][column] += pieces;
        }

        int onShelf(int shop, int kind) {
            int sum = 0;
            for (int b = 0; b < n; b++) {
                if (of[b][SHOP] == shop && of[b][KIND] == kind) {
                    sum += of[b][SHELF];
                }
            }
            return sum;
        }

        int total(int column) {
            int sum = 0;
            for (int b = 0; b < n; b++) {
                sum += of[b][column];
            }
            return sum;
        }

        /** BATCHES come here by number: among those MADE on one DAY the lesser number stays ahead. */
        void addToLine(int b) {
            if (lined >= BATCHES) {
                return;
            }
            int at = lined;
            while (at > 0 && of[line[at - 1]][MADE] > of[b][MADE]) {
                line[at] = line[at - 1];
                at--;
            }
            line[at] = b;
            lined++;
        }

        int takeFromLine(int most, int column) {
            int taken = 0;
            for (int i = 0; i < lined && taken < most; i++) {
                int some = Math.min(most - taken, of[line[i]][SHELF]);
                take(line[i], some, column);
                taken += some;
            }
            return taken;
        }

        /** Of how many BATCHES in the line some are taken, if so many pieces are. */
        int touchedBy(int most) {
            int touched = 0;
            int pieces = 0;
            while (touched < lined && pieces < most) {
                pieces += of[line[touched]][SHELF];
                touched++;
            }
            return touched;
        }

        int moveFromLine(int most, int to) {
            int taken = 0;
            for (int i = 0; i < lined && taken < most; i++) {
                int[] old = of[line[i]];
                int some = Math.min(most - taken, old[SHELF]);
                int there = add(to, old[KIND] * LOTS + old[LOT], old[MADE], some);
                if (there < 0) {
                    return taken;
                }
                of[there][FROM] = line[i];
                of[there][FIRST] = old[FIRST];
                take(line[i], some, MOVED);
                taken += some;
            }
            return taken;
        }

        void noteSpoiled(int b, int pieces, int day) {
            if (spoils >= SPOILS) {
                return;
            }
            of[b][SPOILED] += pieces;
            spoilWhat[spoils] = of[b][KIND] * LOTS + of[b][LOT];
            spoilPieces[spoils] = pieces;
            spoilDay[spoils] = day;
            spoils++;
        }

        private int cameBy(int what, int day) {
            int sum = 0;
            for (int b = 0; b < n; b++) {
                int[] its = of[b];
                boolean first = its[FROM] < 0 && its[CAME] <= day;
                if (first && its[KIND] * LOTS + its[LOT] == what) {
                    sum += its[PIECES];
                }
            }
            return sum;
        }

        private int spoiledBy(int what, int day) {
            int sum = 0;
            for (int i = 0; i < spoils; i++) {
                if (spoilWhat[i] == what && spoilDay[i] <= day) {
                    sum += spoilPieces[i];
                }
            }
            return sum;
        }

        boolean isBadLot(int what, int day) {
            int spoiled = spoiledBy(what, day);
            return spoiled >= 3 && spoiled * 10 > cameBy(what, day);
        }

        /** More BATCHES never make a LOT BAD: only DAYS on which some of it spoiled can be the first. */
        int badSince(int what) {
            int looked = -1;
            for (int i = 0; i < spoils; i++) {
                if (spoilWhat[i] == what && spoilDay[i] > looked) {
                    looked = spoilDay[i];
                    if (isBadLot(what, looked)) {
                        return looked;
                    }
                }
            }
            return NOT;
        }
    }

    /** What a TEXT may ask by its NAMES. */
    private static final class Facts {
        int age = 0;
        int kind = 0;
        int cold = 0;
        int weather = 0;
        int hour = 0;
        int step = 0;
        int warm = 0;
        int shop = 0;

        int named(int name) {
            switch (name) {
                case 'a': return age;
                case 'k': return kind;
                case 'c': return cold;
                case 'w': return weather;
                case 'h': return hour;
                case 'p': return step;
                case 'n': return warm;
                case 's': return shop;
                default: return 0;
            }
        }

        static boolean isName(int sign) {
            switch (sign) {
                case 'a': case 'k': case 'c': case 'w': case 'h': case 'p': case 'n': case 's':
                    return true;
                default:
                    return false;
            }
        }
    }

    /**
     * THE TAPE. A TEXT on it is read into code, each sign behind what it joins: a number as it is, any
     * other sign as its own number below 0, and ; behind each CLAUSE.
     */
    private static final class Tape {
        static final int OPEN_MOST = 9, DIGITS_MOST = 4;
        // How tightly a sign binds what stands beside it, from E down to O.
        static final int EITHER = 0, BOTH = 1, COMPARED = 2, SUM = 3, PRODUCT = 4, OPERAND = 5, NEVER = 6;

        final int[] bytes = new int[TAPE];
        int length = 0;
        int at = 0;
        int[] code = new int[0];
        int words = 0;

        void take(int four) {
            for (int shift = 24; shift >= 0 && length < TAPE; shift -= 8) {
                bytes[length] = four >>> shift & 255;
                length++;
            }
        }

        /** FINE, or the FAULT. */
        int read(int[] into) {
            code = into;
            words = 0;
            at = 0;
            for (int i = 0; i <= length && readClause(); i++) {
                if (at >= length) {
                    return FINE;
                }
                if (!goesOn(';')) {
                    return at;
                }
            }
            return at;
        }

        private int next() {
            return at < length ? bytes[at] : -1;
        }

        private boolean goesOn(int sign) {
            if (next() != sign) {
                return false;
            }
            at++;
            return true;
        }

        private void write(int word) {
            if (words < code.length) {
                code[words] = word;
                words++;
            }
        }

        private boolean readClause() {
            if (!readJoined(EITHER, 0)) {
                return false;
            }
            if (goesOn(',')) {
                write(-',');
                if (!readJoined(EITHER, 0)) {
                    return false;
                }
            }
            write(-';');
            return true;
        }

        private static int tightness(int sign) {
            switch (sign) {
                case '|': return EITHER;
                case '&': return BOTH;
                case '<': case '=': case '>': return COMPARED;
                case '+': case '-': return SUM;
                case '*': case '/': return PRODUCT;
                default: return NEVER;
            }
        }

        /** The levels end at OPERAND, and OPEN_MOST bounds how often an operand starts them anew. */
        private boolean readJoined(int level, int open) {
            if (level >= OPERAND) {
                return readOperand(open);
            }
            if (!readJoined(level + 1, open)) {
                return false;
            }
            for (int i = 0; i < length && tightness(next()) == level; i++) {
                int sign = next();
                at++;
                if (!readJoined(level + 1, open)) {
                    return false;
                }
                write(-sign);
                if (level == COMPARED) {
                    return true;
                }
            }
            return true;
        }

        private boolean readOperand(int open) {
            int sign = next();
            if (isFrom('0', sign, '9')) {
                readNumber();
                return true;
            }
            if (Facts.isName(sign)) {
                write(-sign);
                at++;
                return true;
            }
            if (sign != '!' && sign != '(' || open >= OPEN_MOST) {
                return false;
            }
            at++;
            if (sign == '(') {
                return readJoined(EITHER, open + 1) && goesOn(')');
            }
            if (!readOperand(open + 1)) {
                return false;
            }
            write(-sign);
            return true;
        }

        private void readNumber() {
            int number = 0;
            for (int i = 0; i < DIGITS_MOST && isFrom('0', next(), '9'); i++) {
                number = number * 10 + next() - '0';
                at++;
            }
            write(number);
        }
    }

    private static final class Laws {
        // One word more than THE TAPE has bytes: the last CLAUSE has no ; of its own.
        final int[][] code = new int[LAWS][TAPE + 1];
        final int[] words = new int[LAWS];
        final int[] use = new int[LAWS];
        final int[] from = new int[LAWS];
        final int[] made = new int[LAWS];
        int n = 0;
        final int[] stack = new int[TAPE];
        int top = 0;

        /** A LAW of the code that stands in its row already. */
        int add(int itsWords, int itsUse, int itsFrom, int today) {
            if (n >= LAWS) {
                return FULL;
            }
            words[n] = itsWords;
            use[n] = itsUse;
            from[n] = itsFrom;
            made[n] = today;
            n++;
            return n - 1;
        }

        int latest(int itsUse, int day, int k) {
            for (int i = n - 1; i >= 0; i--) {
                if (use[i] == itsUse && made[i] <= k && from[i] <= day) {
                    return i;
                }
            }
            return NOT;
        }

        int valueOf(int law, Facts facts) {
            boolean counts = true;
            top = 0;
            for (int i = 0; i < words[law]; i++) {
                int word = code[law][i];
                if (word == -';') {
                    int value = pop();
                    if (counts) {
                        return value;
                    }
                    counts = true;
                } else if (word == -',') {
                    counts = pop() != 0;
                } else {
                    work(word, facts);
                }
            }
            return 0;
        }

        private void work(int word, Facts facts) {
            if (word >= 0) {
                push(word);
            } else if (Facts.isName(-word)) {
                push(facts.named(-word));
            } else if (word == -'!') {
                push(pop() == 0 ? 1 : 0);
            } else {
                int right = pop();
                push(join(pop(), -word, right));
            }
        }

        private void push(int v) {
            if (top < TAPE) {
                stack[top] = v;
                top++;
            }
        }

        private int pop() {
            if (top == 0) {
                return 0;
            }
            top--;
            return stack[top];
        }

        private static int join(int a, int sign, int b) {
            switch (sign) {
                case '|': return a != 0 || b != 0 ? 1 : 0;
                case '&': return a != 0 && b != 0 ? 1 : 0;
                case '<': return a < b ? 1 : 0;
                case '=': return a == b ? 1 : 0;
                case '>': return a > b ? 1 : 0;
                case '+': return a + b;
                case '-': return a - b;
                case '*': return a * b;
                case '/': return b == 0 ? 0 : a / b;
                default: return 0;
            }
        }
    }

    /** The ROWS, in the order of their HOURS, and what is reckoned from them. */
    private static final class Rows {
        static final int ENOUGH = 3;

        final int[] shop = new int[ROWS];
        final int[] kind = new int[ROWS];
        final int[] hour = new int[ROWS];
        final int[] step = new int[ROWS];
        final int[] weather = new int[ROWS];
        final int[] asked = new int[ROWS];
        final int[] bought = new int[ROWS];
        int n = 0;
        final int[] daySums = new int[ROWS];
        int sums = 0;
        final int[] daysOfSum = new int[PIECES_MOST + 1];

        int add(int itsShop, int itsKind, int itsHour) {
            if (n < ROWS) {
                shop[n] = itsShop;
                kind[n] = itsKind;
                hour[n] = itsHour;
                n++;
            }
            return n - 1;
        }

        boolean has(int itsShop, int itsKind, int itsHour) {
            for (int r = n - 1; r >= 0 && hour[r] == itsHour; r--) {
                if (shop[r] == itsShop && kind[r] == itsKind) {
                    return true;
                }
            }
            return false;
        }

        int lackInAll() {
            int sum = 0;
            for (int r = 0; r < n; r++) {
                sum += asked[r] - bought[r];
            }
            return sum;
        }

        int foretell(int itsShop, int itsKind, int ofDay, int itsStep, int itsWeather, int k) {
            int near = 0, nearSum = 0, any = 0, anySum = 0, all = 0, allSum = 0;
            for (int r = 0; r < n && hour[r] / HOURS_A_DAY <= k; r++) {
                if (kind[r] != itsKind || hour[r] % HOURS_A_DAY != ofDay || step[r] != itsStep) {
                    continue;
                }
                all++;
                allSum += asked[r];
                if (shop[r] == itsShop) {
                    any++;
                    anySum += asked[r];
                    if (weather[r] == itsWeather) {
                        near++;
                        nearSum += asked[r];
                    }
                }
            }
            if (near >= ENOUGH) {
                return mean(nearSum, near);
            }
            return any >= ENOUGH ? mean(anySum, any) : mean(allSum, all);
        }

        private static int mean(int sum, int rows) {
            return rows == 0 ? 0 : (2 * sum + rows) / (2 * rows);
        }

        int askedEarly(int itsShop, int itsKind, int a, int b) {
            int sum = 0;
            for (int r = 0; r < n; r++) {
                boolean early = hour[r] % HOURS_A_DAY <= LAST_EARLY;
                int day = hour[r] / HOURS_A_DAY;
                if (early && shop[r] == itsShop && kind[r] == itsKind && isFrom(a, day, b)) {
                    sum += asked[r];
                }
            }
            return sum;
        }

        void sumDays(int itsShop, int itsKind, int ofWeek, int itsWeather, int k) {
            int latest = -1;
            sums = 0;
            for (int r = 0; r < n && hour[r] / HOURS_A_DAY <= k; r++) {
                int day = hour[r] / HOURS_A_DAY;
                boolean same = shop[r] == itsShop && kind[r] == itsKind && weather[r] == itsWeather;
                if (!same || day % DAYS_A_WEEK != ofWeek) {
                    continue;
                }
                if (day != latest) {
                    daySums[sums] = 0;
                    sums++;
                    latest = day;
                }
                daySums[sums - 1] += asked[r];
            }
        }

        long lossOf(int q, int lackCost, int wasteCost) {
            long sum = 0;
            for (int i = 0; i < sums; i++) {
                long lack = daySums[i] - q;
                sum += lack > 0 ? lack * lackCost : -lack * wasteCost;
            }
            return sum;
        }

        /**
         * One piece more is wasted on the DAYS that have enough already and helps on the others. The
         * first q from which one more helps no longer is the least of the best ones.
         */
        int leastLoss(int lackCost, int wasteCost) {
            Arrays.fill(daysOfSum, 0);
            for (int i = 0; i < sums; i++) {
                if (daySums[i] <= PIECES_MOST) {
                    daysOfSum[daySums[i]]++;
                }
            }
            long enough = 0;
            for (int q = 0; q < PIECES_MOST; q++) {
                enough += daysOfSum[q];
                if (enough * wasteCost >= (sums - enough) * lackCost) {
                    return q;
                }
            }
            return PIECES_MOST;
        }
    }

    /** THE PLAN: with four STEPS that never fall back there are few ways, so each is tried. */
    private static final class Cuts {
        static final int WAYS_MOST = 680;

        final int[][] asked = new int[OPEN_HOURS][STEPS];
        final int[] price = new int[STEPS];
        final int[] trial = new int[OPEN_HOURS];
        final int[] best = new int[OPEN_HOURS];
        boolean found = false;
        int from = 0;
        int rest = 0;

        int search(int hour, int step, int stock, int throwCost) {
            int start = Math.max(0, hour - OPENS);
            long worth = 0;
            found = false;
            from = hour;
            Arrays.fill(trial, step);
            for (int i = 0; i < WAYS_MOST; i++) {
                int unsold = unsoldBy(start, stock);
                long its = coinsBy(start, stock) - (long) unsold * throwCost;
                if (!found || its > worth) {
                    found = true;
                    worth = its;
                    rest = unsold;
                    System.arraycopy(trial, 0, best, 0, OPEN_HOURS);
                }
                if (!stepOn(start)) {
                    break;
                }
            }
            return (int) worth;
        }

        private long coinsBy(int start, int stock) {
            long coins = 0;
            int here = stock;
            for (int i = start; i < OPEN_HOURS; i++) {
                int bought = Math.min(here, asked[i][trial[i]]);
                coins += (long) bought * price[trial[i]];
                here -= bought;
            }
            return coins;
        }

        private int unsoldBy(int start, int stock) {
            int here = stock;
            for (int i = start; i < OPEN_HOURS; i++) {
                here -= Math.min(here, asked[i][trial[i]]);
            }
            return here;
        }

        /** The next trial in the order in which, of several, the first one counts; false behind the last. */
        private boolean stepOn(int start) {
            for (int i = OPEN_HOURS - 1; i >= start; i--) {
                if (trial[i] < STEPS - 1) {
                    raiseFrom(i, trial[i] + 1);
                    return true;
                }
            }
            return false;
        }

        private void raiseFrom(int start, int step) {
            for (int i = start; i < OPEN_HOURS; i++) {
                trial[i] = step;
            }
        }
    }

    /**
     * CRATES. A way is one number, the less the better: NEED crates without a sender, then MILES, then
     * the senders, four bits a crate, the first crate highest.
     */
    private static final class Crates {
        static final int NOBODY = 15, SENDER_BITS = 4, SENDERS_BITS = 24, MILES_BITS = 11;
        static final long NO_WAY = 1L << 60;

        final int[] spare = new int[SHOPS];
        final int[] need = new int[SHOPS];
        final int[] goal = new int[NEED_MOST];
        final int[] from = new int[NEED_MOST];
        // The best way in which just the crates of a mask have senders, of those SHOPS seen so far.
        final long[] best = new long[1 << NEED_MOST];
        int n = 0;

        int allNeed() {
            int sum = 0;
            for (int s = 0; s < SHOPS; s++) {
                sum += need[s];
            }
            return sum;
        }

        /** MILES of the best way. */
        int search(Places shops) {
            listGoals();
            Arrays.fill(best, NO_WAY);
            best[0] = 0;
            for (int s = 0; s < shops.n; s++) {
                for (int i = 0; i < spare[s]; i++) {
                    sendOne(s, shops);
                }
            }
            long way = bestOfAll();
            for (int i = 0; i < n; i++) {
                from[i] = (int) (way >> shiftOf(i)) & (1 << SENDER_BITS) - 1;
            }
            return (int) (way >> SENDERS_BITS) & (1 << MILES_BITS) - 1;
        }

        private void listGoals() {
            n = 0;
            for (int s = 0; s < SHOPS; s++) {
                for (int i = 0; i < need[s] && n < NEED_MOST; i++) {
                    goal[n] = s;
                    n++;
                }
            }
        }

        private static int shiftOf(int crate) {
            return SENDER_BITS * (NEED_MOST - 1 - crate);
        }

        /** Greater masks first, so that no way has the one crate of this SHOP twice. */
        private void sendOne(int s, Places shops) {
            for (int mask = (1 << n) - 1; mask > 0; mask--) {
                for (int i = 0; i < n; i++) {
                    if ((mask >> i & 1) == 1 && goal[i] != s) {
                        long miles = shops.milesTo(s, shops, goal[i]);
                        long more = (miles << SENDERS_BITS) + ((long) s << shiftOf(i));
                        best[mask] = Math.min(best[mask], best[mask ^ 1 << i] + more);
                    }
                }
            }
        }

        private long bestOfAll() {
            long least = NO_WAY;
            for (int mask = 0; mask < 1 << n; mask++) {
                long way = best[mask];
                for (int i = 0; i < n; i++) {
                    if ((mask >> i & 1) == 0) {
                        way += (1L << SENDERS_BITS + MILES_BITS) + ((long) NOBODY << shiftOf(i));
                    }
                }
                least = Math.min(least, way);
            }
            return least;
        }
    }
}
