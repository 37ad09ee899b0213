import java.util.ArrayList;
import java.util.HashMap;
import java.util.HashSet;
import java.util.List;
import java.util.Map;
import java.util.Set;
import java.util.TreeMap;

/**
 * The document once more, as slowly and plainly as it reads: every answer is worked out anew from lists
 * of what was told. It shares no code with DuskShelves, and RandomRunsTest holds the two together.
 */
public final class Model {
    static final int BAD = -1, NOT = -2, FULL = -3, BIG = -4, VOID = -2000000000;

    static final class Batch {
        int number, shop, kind, lot, made, came, pieces, sold, moved, given, thrown, spoiled;
        Batch from;

        int here() {
            return pieces - sold - moved - given - thrown;
        }

        Batch first() {
            return from == null ? this : from.first();
        }
    }

    record Kind(int price, int cost, int grams, int cold) { }

    record Law(int use, int from, int made, String text) { }

    record Row(int shop, int kind, int hour, int step, int weather, int day, int asked, int bought) { }

    record Spoil(int kind, int lot, int pieces, int day) { }

    int hour = 0;
    final List<int[]> shops = new ArrayList<>();
    final List<int[]> kitchens = new ArrayList<>();
    final List<Kind> kinds = new ArrayList<>();
    final List<Batch> batches = new ArrayList<>();
    final List<Law> laws = new ArrayList<>();
    final List<Row> rows = new ArrayList<>();
    final List<Spoil> spoils = new ArrayList<>();
    final Map<Integer, Integer> throwing = new HashMap<>();
    final Map<Integer, Integer> weather = new HashMap<>();
    final Map<Integer, Integer> steps = new HashMap<>();
    final Map<Integer, Integer> warm = new HashMap<>();
    final Map<Integer, Integer> tills = new HashMap<>();
    final Map<Integer, Integer> grams = new HashMap<>();
    final Map<Integer, Integer> spare = new TreeMap<>();
    final Map<Integer, Integer> need = new TreeMap<>();
    final Map<Integer, Integer> drawn = new TreeMap<>();
    int cost = 0;
    String tape = "";
    List<Integer> planSteps = null;
    int planFrom = 0;
    int planLeft = 0;
    List<Integer> senders = null;

    boolean noShop(int shop) {
        return shop < 0 || shop >= shops.size();
    }

    boolean noKind(int kind) {
        return kind < 0 || kind >= kinds.size();
    }

    static boolean noDay(int day) {
        return day < 0 || day > 1499;
    }

    int day() {
        return hour / 24;
    }

    static int key(int shop, int kind) {
        return shop * 10 + kind;
    }

    public int shop(int place) {
        if (place < 0 || place > 9999) return BAD;
        if (shops.size() == 12) return FULL;
        shops.add(new int[] {place / 100, place % 100});
        return shops.size() - 1;
    }

    public int kind(int price, int cost, int grams, int cold) {
        if (price < 1 || price > 9999 || cost < 0 || cost > 9999) return BAD;
        if (grams < 1 || grams > 9999 || cold < 0 || cold > 1) return BAD;
        if (kinds.size() == 10) return FULL;
        kinds.add(new Kind(price, cost, grams, cold));
        return kinds.size() - 1;
    }

    public int priceAt(int kind, int step) {
        if (noKind(kind) || step < 0 || step > 3) return BAD;
        return kinds.get(kind).price * new int[] {100, 75, 50, 25}[step] / 100;
    }

    static int swap(Map<Integer, Integer> map, int key, int v, int atFirst) {
        Integer was = map.put(key, v);
        return was == null ? atFirst : was;
    }

    public int throwing(int kind, int v) {
        if (noKind(kind) || v < 0 || v > 9999) return BAD;
        return swap(throwing, kind, v, 0);
    }

    public int weather(int day, int v) {
        if (noDay(day) || v < 0 || v > 2) return BAD;
        return swap(weather, day, v, 0);
    }

    public int hours(int n) {
        if (n < 1 || n > 240 || hour + n > 35999) return BAD;
        int until = hour + n;
        while (hour < until) {
            hour++;
            if (hour % 24 == 0) {
                steps.clear();
                warm.clear();
                for (Batch b : batches) {
                    if (!may(0, b) && b.here() > 0) throwAway(b, b.here());
                }
            }
        }
        return hour;
    }

    void throwAway(Batch b, int n) {
        b.thrown += n;
        grams.merge(day(), n * kinds.get(b.kind).grams, Integer::sum);
    }

    public int cut(int shop, int kind, int step) {
        if (noShop(shop) || noKind(kind) || step < 0 || step > 3) return BAD;
        if (step <= step(shop, kind)) return NOT;
        return swap(steps, key(shop, kind), step, 0);
    }

    public int step(int shop, int kind) {
        if (noShop(shop) || noKind(kind)) return BAD;
        return steps.getOrDefault(key(shop, kind), 0);
    }

    public int warm(int shop, int kind, int n) {
        if (noShop(shop) || noKind(kind) || n < 0 || n > 24) return BAD;
        return swap(warm, key(shop, kind), n, 0);
    }

    Batch newBatch(int shop, int kind, int lot, int made, int pieces, Batch from) {
        Batch b = new Batch();
        b.number = batches.size();
        b.shop = shop;
        b.kind = kind;
        b.lot = lot;
        b.made = made;
        b.came = day();
        b.pieces = pieces;
        b.from = from;
        batches.add(b);
        return b;
    }

    public int batch(int shop, int what, int made, int pieces) {
        if (noShop(shop) || what < 0 || noKind(what / 100) || made < 0 || made > 9) return BAD;
        if (day() - made < 0 || pieces < 1 || pieces > 999) return BAD;
        if (batches.size() == 200) return FULL;
        cost += pieces * kinds.get(what / 100).cost;
        return newBatch(shop, what / 100, what % 100, day() - made, pieces, null).number;
    }

    public int ofBatch(int batch, int what) {
        if (batch < 0 || batch >= batches.size() || what < 0 || what > 12) return VOID;
        Batch b = batches.get(batch);
        int from = b.from == null ? -1 : b.from.number;
        return new int[] {b.shop, b.kind, b.lot, b.made, b.pieces, b.here(), b.sold, b.moved, b.given,
            b.thrown, b.spoiled, from, b.first().number}[what];
    }

    static int sumHere(List<Batch> of) {
        return of.stream().mapToInt(Batch::here).sum();
    }

    /** Eldest first, with pieces on the shelf; use -1: whatever the LAWS say. */
    List<Batch> those(int shop, int kind, int use) {
        List<Batch> found = new ArrayList<>();
        for (Batch b : batches) {
            if (b.shop == shop && b.kind == kind && b.here() > 0 && (use < 0 || may(use, b))) found.add(b);
        }
        found.sort((p, q) -> p.made != q.made ? p.made - q.made : p.number - q.number);
        return found;
    }

    public int shelf(int shop, int kind, int what) {
        if (noShop(shop) || noKind(kind) || what < 0 || what > 2) return BAD;
        return sumHere(those(shop, kind, what - 1));
    }

    public int feed(int a, int b, int c, int d, int e) {
        if (tape.length() + 20 > 160) return FULL;
        for (int four : new int[] {a, b, c, d, e}) {
            for (int shift = 24; shift >= 0; shift -= 8) tape += (char) (four >> shift & 255);
        }
        return tape.length();
    }

    public int end(int n) {
        if (n < 0 || n > tape.length()) return BAD;
        tape = tape.substring(0, n);
        return n;
    }

    public int law(int use, int from) {
        if (use < 0 || use > 1 || noDay(from)) return BAD;
        if (laws.size() == 16) return FULL;
        String text = tape;
        tape = "";
        int fault = Texts.fault(text);
        if (fault >= 0) return -100 - fault;
        laws.add(new Law(use, from, day(), text));
        return laws.size() - 1;
    }

    public int inForce(int use, int day, int k) {
        if (use < 0 || use > 1 || noDay(day) || noDay(k)) return BAD;
        int found = NOT;
        for (int i = 0; i < laws.size(); i++) {
            Law law = laws.get(i);
            if (law.use == use && law.made <= k && law.from <= day) found = i;
        }
        return found;
    }

    int ask(int law, Batch b) {
        Map<Character, Integer> names = new HashMap<>();
        names.put('a', day() - b.made);
        names.put('k', b.kind);
        names.put('c', kinds.get(b.kind).cold);
        names.put('w', weather.getOrDefault(day(), 0));
        names.put('h', hour % 24);
        names.put('p', step(b.shop, b.kind));
        names.put('n', warm.getOrDefault(key(b.shop, b.kind), 0));
        names.put('s', b.shop);
        return Texts.value(laws.get(law).text, names);
    }

    boolean may(int use, Batch b) {
        int law = inForce(use, day(), day());
        return law == NOT || ask(law, b) != 0;
    }

    public int says(int law, int batch) {
        if (law < 0 || law >= laws.size() || batch < 0 || batch >= batches.size()) return VOID;
        return ask(law, batches.get(batch));
    }

    boolean closedOrTold(int shop, int kind) {
        if (hour % 24 < 6 || hour % 24 > 19) return true;
        return rows.stream().anyMatch(r -> r.shop == shop && r.kind == kind
            && r.day * 24 + r.hour == hour);
    }

    public int buy(int shop, int kind, int n) {
        if (noShop(shop) || noKind(kind) || n < 0 || n > 999) return BAD;
        if (closedOrTold(shop, kind)) return NOT;
        if (rows.size() == 600) return FULL;
        int bought = 0;
        for (Batch b : those(shop, kind, 0)) {
            int some = Math.min(n - bought, b.here());
            b.sold += some;
            bought += some;
        }
        int step = step(shop, kind);
        tills.merge(shop, bought * priceAt(kind, step), Integer::sum);
        rows.add(new Row(shop, kind, hour % 24, step, weather.getOrDefault(day(), 0), day(), n, bought));
        return bought;
    }

    int mean(List<Row> of) {
        if (of.isEmpty()) return 0;
        return (int) Math.floor(of.stream().mapToInt(Row::asked).sum() / (double) of.size() + 0.5);
    }

    public int foretold(int shop, int kind, int what, int k) {
        if (noShop(shop) || noKind(kind) || what < 600 || noDay(k)) return BAD;
        int h = what / 100;
        int step = what % 100 / 10;
        int sky = what % 10;
        if (h > 19 || step > 3 || sky > 2) return BAD;
        List<Row> all = rows.stream()
            .filter(r -> r.day <= k && r.kind == kind && r.hour == h && r.step == step).toList();
        List<Row> own = all.stream().filter(r -> r.shop == shop).toList();
        List<Row> same = own.stream().filter(r -> r.weather == sky).toList();
        return mean(same.size() >= 3 ? same : own.size() >= 3 ? own : all);
    }

    /** The best from an hour on, by hour, STEP and stock: WORTH, and the first STEP to take. */
    private long[] tableAt(Map<Integer, long[]> table, int[][] asked, int[] told, int h, int step, int stock) {
        if (h == 20) return new long[] {-(long) stock * told[4], -1};
        int key = (h * 4 + step) * 200000 + stock;
        long[] known = table.get(key);
        if (known != null) return known;
        long[] best = null;
        for (int s = step; s < 4; s++) {
            int bought = Math.min(stock, asked[h][s]);
            long worth = (long) bought * told[s] + tableAt(table, asked, told, h + 1, s, stock - bought)[0];
            if (best == null || worth > best[0]) best = new long[] {worth, s};
        }
        table.put(key, best);
        return best;
    }

    public int plan(int shop, int kind) {
        if (noShop(shop) || noKind(kind) || closedOrTold(shop, kind)) return VOID;
        int[][] asked = new int[20][4];
        int[] told = new int[5];
        told[4] = throwing.getOrDefault(kind, 0);
        for (int s = 0; s < 4; s++) {
            told[s] = priceAt(kind, s);
            for (int h = 6; h < 20; h++) {
                asked[h][s] = foretold(shop, kind, h * 100 + s * 10 + weather.getOrDefault(day(), 0), day());
            }
        }
        Map<Integer, long[]> table = new HashMap<>();
        int stock = shelf(shop, kind, 1);
        int step = step(shop, kind);
        planFrom = hour % 24;
        planSteps = new ArrayList<>();
        long worth = tableAt(table, asked, told, planFrom, step, stock)[0];
        for (int h = planFrom; h < 20; h++) {
            step = (int) tableAt(table, asked, told, h, step, stock)[1];
            planSteps.add(step);
            stock -= Math.min(stock, asked[h][step]);
        }
        planLeft = stock;
        return (int) worth;
    }

    public int planned(int hour) {
        if (planSteps == null || hour < planFrom || hour > 19) return BAD;
        return planSteps.get(hour - planFrom);
    }

    public int left() {
        return planSteps == null ? BAD : planLeft;
    }

    public int order(int shop, int kind, int what, int k) {
        if (loss(shop, kind, what, k, 0) < 0) return BAD;
        int best = 0;
        long least = Long.MAX_VALUE;
        for (int q = 0; q < 1000; q++) {
            long its = loss(shop, kind, what, k, q);
            if (its < least) {
                least = its;
                best = q;
            }
        }
        return best;
    }

    public long loss(int shop, int kind, int what, int k, int q) {
        if (noShop(shop) || noKind(kind) || what < 0 || what > 69 || what % 10 > 2) return BAD;
        if (noDay(k) || q < 0 || q > 999) return BAD;
        Map<Integer, Integer> sums = new HashMap<>();
        for (Row r : rows) {
            boolean same = r.shop == shop && r.kind == kind && r.weather == what % 10;
            if (same && r.day <= k && r.day % 7 == what / 10) sums.merge(r.day, r.asked, Integer::sum);
        }
        Kind its = kinds.get(kind);
        long lack = its.price > its.cost ? its.price - its.cost : 0;
        long waste = its.cost + throwing.getOrDefault(kind, 0);
        long sum = 0;
        for (int asked : sums.values()) {
            sum += asked > q ? lack * (asked - q) : waste * (q - asked);
        }
        return sum;
    }

    public int crates(int shop, int what, int n) {
        if (noShop(shop) || what < 0 || what > 1 || n < 0 || n > 3) return BAD;
        return swap(what == 0 ? spare : need, shop, n, 0);
    }

    static int miles(int[] a, int[] b) {
        return Math.abs(a[0] - b[0]) + Math.abs(a[1] - b[1]);
    }

    private int bestMoved;
    private int bestMiles;

    /** Every way in the order in which the first counts. */
    private void tryWays(List<Integer> goals, List<Integer> chosen, int moved, int miles) {
        int i = chosen.size();
        if (moved + goals.size() - i < bestMoved) return;
        if (i == goals.size()) {
            if (moved > bestMoved || moved == bestMoved && miles < bestMiles) {
                bestMoved = moved;
                bestMiles = miles;
                senders = new ArrayList<>(chosen);
            }
            return;
        }
        for (int s = 0; s < shops.size(); s++) {
            int has = spare.getOrDefault(s, 0);
            if (has == 0 || s == goals.get(i)) continue;
            spare.put(s, has - 1);
            chosen.add(s);
            tryWays(goals, chosen, moved + 1, miles + miles(shops.get(s), shops.get(goals.get(i))));
            chosen.remove(i);
            spare.put(s, has);
        }
        chosen.add(NOT);
        tryWays(goals, chosen, moved, miles);
        chosen.remove(i);
    }

    public int ways() {
        List<Integer> goals = new ArrayList<>();
        need.forEach((s, n) -> {
            for (int i = 0; i < n; i++) goals.add(s);
        });
        if (goals.size() > 6) return BIG;
        bestMoved = -1;
        bestMiles = 0;
        tryWays(goals, new ArrayList<>(), 0, 0);
        return bestMiles;
    }

    public int comes(int i) {
        if (senders == null || i < 0 || i >= senders.size()) return BAD;
        return senders.get(i);
    }

    public int move(int shop, int to, int kind, int n) {
        if (noShop(shop) || noShop(to) || shop == to || noKind(kind) || n < 1 || n > 999) return BAD;
        List<Batch> those = those(shop, kind, 0);
        if (those.isEmpty()) return NOT;
        List<int[]> taken = new ArrayList<>();
        int moved = 0;
        for (Batch b : those) {
            int some = Math.min(n - moved, b.here());
            if (some > 0) taken.add(new int[] {b.number, some});
            moved += some;
        }
        if (batches.size() + taken.size() > 200) return FULL;
        for (int[] t : taken) {
            Batch b = batches.get(t[0]);
            b.moved += t[1];
            newBatch(to, kind, b.lot, b.made, t[1], b);
        }
        return moved;
    }

    public int drawn(int shop, int is) {
        if (noShop(shop) || is < -1 || is > 1) return -2;
        return swap(drawn, shop, is, -1);
    }

    public int early(int shop, int kind, int a, int b) {
        if (noShop(shop) || noKind(kind) || noDay(a) || noDay(b) || a > b) return BAD;
        return rows.stream().filter(r -> r.shop == shop && r.kind == kind && r.hour < 14)
            .filter(r -> a <= r.day && r.day <= b).mapToInt(Row::asked).sum();
    }

    /** GAP times the product of both numbers of SHOPS. */
    private long gap(int kind, int a, int b, List<Integer> all, Set<Integer> cut) {
        long in = 0;
        long out = 0;
        for (int s : all) {
            if (cut.contains(s)) in += early(s, kind, a, b);
            else out += early(s, kind, a, b);
        }
        return out * cut.size() - in * (all.size() - cut.size());
    }

    private void draws(List<Integer> all, int from, int more, Set<Integer> now, List<Set<Integer>> into) {
        if (more == 0) {
            into.add(new HashSet<>(now));
            return;
        }
        for (int i = from; i < all.size(); i++) {
            now.add(all.get(i));
            draws(all, i + 1, more - 1, now, into);
            now.remove(all.get(i));
        }
    }

    public int waiting(int kind, int a, int b, int what) {
        if (noKind(kind) || noDay(a) || noDay(b) || a > b || what < 0 || what > 1) return VOID;
        List<Integer> all = new ArrayList<>();
        Set<Integer> cut = new HashSet<>();
        drawn.forEach((s, is) -> {
            if (is >= 0) all.add(s);
            if (is == 1) cut.add(s);
        });
        if (cut.isEmpty() || cut.size() == all.size()) return -1999999999;
        if (all.size() > 10) return -1999999998;
        long gap = gap(kind, a, b, all, cut);
        if (what == 0) return (int) (gap * 100 / (cut.size() * (all.size() - cut.size())));
        List<Set<Integer>> draws = new ArrayList<>();
        draws(all, 0, cut.size(), new HashSet<>(), draws);
        long asFar = draws.stream().filter(d -> gap(kind, a, b, all, d) >= gap).count();
        int parts = 0;
        while (parts * (long) draws.size() < asFar * 10000) parts++;
        return parts;
    }

    public int kitchen(int place, int hour) {
        if (place < 0 || place > 9999 || hour < 0 || hour > 23) return BAD;
        if (kitchens.size() == 10) return FULL;
        kitchens.add(new int[] {place / 100, place % 100, hour});
        return kitchens.size() - 1;
    }

    public int gift(int shop, int kind, int kitchen, int n) {
        if (noShop(shop) || noKind(kind) || kitchen < 0 || kitchen >= kitchens.size()) return BAD;
        if (n < 1 || n > 999) return BAD;
        int way = (int) Math.ceil(miles(shops.get(shop), kitchens.get(kitchen)) / 10.0);
        if (hour % 24 + way > kitchens.get(kitchen)[2]) return NOT;
        if (kinds.get(kind).cold == 1 && way > 2) return NOT;
        int given = 0;
        for (Batch b : those(shop, kind, 1)) {
            int some = Math.min(n - given, b.here());
            b.given += some;
            given += some;
        }
        return given == 0 ? NOT : given;
    }

    public int bin(int batch, int n, int spoiled) {
        if (batch < 0 || batch >= batches.size() || n < 1 || n > 999) return BAD;
        if (spoiled < 0 || spoiled > 1) return BAD;
        Batch b = batches.get(batch);
        if (b.here() < n) return NOT;
        if (spoiled == 1 && spoils.size() == 400) return FULL;
        if (spoiled == 1) {
            b.spoiled += n;
            spoils.add(new Spoil(b.kind, b.lot, n, day()));
        }
        throwAway(b, n);
        return b.here();
    }

    public int tossed(int day) {
        return noDay(day) ? BAD : grams.getOrDefault(day, 0);
    }

    public int isBad(int kind, int lot, int k) {
        if (noKind(kind) || lot < 0 || lot > 99 || noDay(k)) return BAD;
        int all = batches.stream().filter(b -> b.from == null && b.kind == kind && b.lot == lot)
            .filter(b -> b.came <= k).mapToInt(b -> b.pieces).sum();
        int lost = spoils.stream().filter(s -> s.kind == kind && s.lot == lot && s.day <= k)
            .mapToInt(Spoil::pieces).sum();
        return lost >= 3 && lost > all / 10.0 ? 1 : 0;
    }

    public int since(int kind, int lot) {
        if (noKind(kind) || lot < 0 || lot > 99) return BAD;
        for (int k = 0; k < 1500; k++) {
            if (isBad(kind, lot, k) == 1) return k;
        }
        return NOT;
    }

    public int till(int shop) {
        return noShop(shop) ? BAD : tills.getOrDefault(shop, 0);
    }

    public int count(int what) {
        if (what < 0 || what > 13) return BAD;
        int here = sumHere(batches);
        int sold = batches.stream().mapToInt(b -> b.sold).sum();
        int given = batches.stream().mapToInt(b -> b.given).sum();
        int thrown = batches.stream().mapToInt(b -> b.thrown).sum();
        int lack = rows.stream().mapToInt(r -> r.asked - r.bought).sum();
        return new int[] {shops.size(), kinds.size(), batches.size(), rows.size(), laws.size(), hour,
            kitchens.size(), tape.length(), cost, here, sold, given, thrown, lack}[what];
    }
}
