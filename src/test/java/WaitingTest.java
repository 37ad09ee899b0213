/** Promises 30 to 32. */
public final class WaitingTest {
    private static final int BAD = DuskShelves.BAD, VOID = DuskShelves.VOID;
    private static final int NOT = -1999999999, BIG = -1999999998;

    private WaitingTest() {
    }

    /** So much asked in each SHOP at 6 on DAY 0. */
    private static DuskShelves asked(int... n) {
        DuskShelves x = new DuskShelves();
        x.kind(9, 4, 1, 0);
        x.hours(6);
        for (int s = 0; s < n.length; s++) {
            x.shop(0);
            x.buy(s, 0, n[s]);
        }
        return x;
    }

    private static void draw(DuskShelves x, int... is) {
        for (int s = 0; s < is.length; s++) {
            x.drawn(s, is[s]);
        }
    }

    private static void drawn() {
        DuskShelves x = new DuskShelves();
        Check.due("30: no shop", x.drawn(0, 1), -2);
        x.shop(0);
        Check.due("30: at first", x.drawn(0, 1), -1);
        Check.due("30: 2", x.drawn(0, 2), -2);
        Check.due("30: -2", x.drawn(0, -2), -2);
        Check.due("30: was cut", x.drawn(0, 0), 1);
        Check.due("30: was not", x.drawn(0, -1), 0);
        Check.due("30: was none", x.drawn(0, -1), -1);
    }

    private static void early() {
        DuskShelves x = asked(5, 6);
        x.kind(9, 4, 1, 0);
        x.buy(0, 1, 100);
        x.hours(7);
        x.buy(0, 0, 20);
        x.hours(1);
        x.buy(0, 0, 300);
        x.hours(24);
        x.buy(0, 0, 700);
        x.hours(17);
        x.buy(0, 0, 1);
        Check.due("31: 6 to 13", x.early(0, 0, 0, 0), 25);
        Check.due("31: two days", x.early(0, 0, 0, 2), 26);
        Check.due("31: day 1", x.early(0, 0, 1, 1), 0);
        Check.due("31: days 1 on", x.early(0, 0, 1, 1499), 1);
        Check.due("31: other shop", x.early(1, 0, 0, 9), 6);
        Check.due("31: other kind", x.early(0, 1, 0, 9), 100);
        Check.due("31: from after to", x.early(0, 0, 2, 1), BAD);
        Check.due("31: day -1", x.early(0, 0, -1, 1), BAD);
        Check.due("31: day 1500", x.early(0, 0, 0, 1500), BAD);
        Check.due("31: shop 2", x.early(2, 0, 0, 0), BAD);
        Check.due("31: kind 2", x.early(0, 2, 0, 0), BAD);
    }

    private static void gapAndDoubt() {
        DuskShelves x = asked(1, 2, 4, 8);
        Check.due("32: none drawn", x.waiting(0, 0, 0, 0), NOT);
        draw(x, 1, 1);
        Check.due("32: all cut", x.waiting(0, 0, 0, 1), NOT);
        draw(x, 0, 0);
        Check.due("32: none cut", x.waiting(0, 0, 0, 0), NOT);
        draw(x, 1, 0, 0, 0);
        Check.due("32: (2+4+8)/3 - 1", x.waiting(0, 0, 0, 0), 366);
        Check.due("32: one of four", x.waiting(0, 0, 0, 1), 2500);
        draw(x, 0, 0, 0, 1);
        Check.due("32: 7/3 - 8, toward 0", x.waiting(0, 0, 0, 0), -566);
        Check.due("32: all of them", x.waiting(0, 0, 0, 1), 10000);
        draw(x, 0, 0, 1, -1);
        Check.due("32: 3/2 - 4", x.waiting(0, 0, 0, 0), -250);
        draw(x, 0, 1, 0, -1);
        Check.due("32: two of three, up", x.waiting(0, 0, 0, 1), 6667);
        draw(x, 1, 1, 0, 0);
        Check.due("32: one of six, up", x.waiting(0, 0, 0, 1), 1667);
        Check.due("32: on other days", x.waiting(0, 1, 9, 0), 0);
        Check.due("32: on other days", x.waiting(0, 1, 9, 1), 10000);
        Check.due("32: what 2", x.waiting(0, 0, 0, 2), VOID);
        Check.due("32: what -1", x.waiting(0, 0, 0, -1), VOID);
        Check.due("32: kind 1", x.waiting(1, 0, 0, 0), VOID);
        Check.due("32: from after to", x.waiting(0, 1, 0, 0), VOID);
        Check.due("32: day 1500", x.waiting(0, 0, 1500, 0), VOID);
        x = asked(3, 3, 1, 9);
        draw(x, 1, 0, 0, 0);
        Check.due("32: as great counts", x.waiting(0, 0, 0, 1), 7500);
    }

    private static void many() {
        DuskShelves x = asked(1, 2, 3, 4, 5, 6, 7, 8, 9, 10, 11, 12);
        draw(x, -1, 1, 1, 1, 1, 1, 0, 0, 0, 0, 0);
        Check.due("32: ten shops, 1 of 252", x.waiting(0, 0, 0, 1), 40);
        Check.due("32: ten shops, gap", x.waiting(0, 0, 0, 0), 500);
        x.drawn(11, 0);
        Check.due("32: eleven", x.waiting(0, 0, 0, 1), BIG);
        Check.due("32: eleven, gap", x.waiting(0, 0, 0, 0), BIG);
        Check.due("32: VOID ahead of BIG", x.waiting(0, 0, 0, 2), VOID);
        draw(x, 0, 0, 0, 0, 0, 0, 0, 0, 0, 0, 0, 0);
        Check.due("32: NOT ahead of BIG", x.waiting(0, 0, 0, 0), NOT);
    }

    public static void main(String[] args) {
        drawn();
        early();
        gapAndDoubt();
        many();
        Check.end("WaitingTest");
    }
}
