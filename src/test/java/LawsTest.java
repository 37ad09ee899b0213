/** Promises 14 to 18, and what LAWS do when a DAY begins. */
public final class LawsTest {
    private static final int BAD = DuskShelves.BAD, NOT = DuskShelves.NOT, FULL = DuskShelves.FULL;
    private static final int VOID = DuskShelves.VOID;

    private LawsTest() {
    }

    private static void feedAndEnd() {
        DuskShelves x = new DuskShelves();
        Check.due("15: nothing is there", x.end(0), 0);
        Check.due("15: no byte 1", x.end(1), BAD);
        for (int i = 1; i <= 8; i++) {
            Check.due("14: feed", x.feed(-1, 0x31323334, 0, Integer.MIN_VALUE, 7), 20 * i);
        }
        Check.due("14: beyond 160", x.feed(0, 0, 0, 0, 0), FULL);
        Check.due("15: one byte less", x.end(159), 159);
        Check.due("14: still too many", x.feed(0, 0, 0, 0, 0), FULL);
        Check.due("15: more than are there", x.end(160), BAD);
        Check.due("15: -1", x.end(-1), BAD);
        Check.due("15: 140", x.end(140), 140);
        Check.due("14: just fits", x.feed(0, 0, 0, 0, 0), 160);
        x.end(0);
        x.feed(0x31323334, 0x2b353637, 0x38200000, 0, 0);
        x.end(9);
        Check.due("14: the highest byte first", x.law(0, 0), 0);
        x.shop(0);
        x.kind(1, 1, 1, 0);
        x.batch(0, 0, 0, 1);
        Check.due("14: 1234+5678", x.says(0, 0), 6912);
        x.feed(0x31ff3131, 0, 0, 0, 0);
        Check.due("14: byte 255", x.law(0, 0), -101);
    }

    private static void fault(String text, int due) {
        Check.due("16: FAULT of " + text, Check.law(new DuskShelves(), 0, 0, text), -100 - due);
    }

    private static void faults() {
        fault("", 0);
        fault(";", 0);
        fault(",1", 0);
        fault(" 1", 0);
        fault("A", 0);
        fault("b", 0);
        fault("-1", 0);
        fault(")", 0);
        fault("1;", 2);
        fault("1,", 2);
        fault("1,2,", 3);
        fault("1,2;3,4,5", 7);
        fault("1;;", 2);
        fault("12345", 4);
        fault("1234a", 4);
        fault("a1", 1);
        fault("1!", 1);
        fault("1(", 1);
        fault("()", 1);
        fault("(1", 2);
        fault("(1,2)", 2);
        fault("(1;2)", 2);
        fault("1)", 1);
        fault("a<b", 2);
        fault("a<k=c", 3);
        fault("a<k+c>p", 5);
        fault("(a<k)<c>1", 7);
        fault("a|&k", 2);
        fault("a+", 2);
        fault("!", 1);
        fault("a\0", 1);
        fault("a\u00ff", 1);
        fault("!!!!!!!!!!a", 9);
        fault("((((((((((a", 9);
        fault("!(!(!(!(!(a", 9);
        fault("!!!!!!!!!(a", 9);
        fault("(((((((((!a", 9);
        fault("(!(!(!(!(!a", 9);
        fault("1,((((((((((a", 11);
        fault("1,!!!!!!!!!!a", 11);
        fault("!!!!!!!!!", 9);
        fault("!!!!!!!!!a;!!!!!!!!!!a", 20);
        fault("1;".repeat(80), 160);
        fault("1;".repeat(79) + "1)", 159);
    }

    private static void goodTexts() {
        String[] good = {"1", "a", "0000", "!!!!!!!!!a", "(((((((((a)))))))))",
            "1,(((((((((a)))))))));!!!!!!!!!a,!!!!!!!!!a", "!(!(!(!(!a))))",
            "(a<k)<c", "a<k&c>p|h=1", "1,2;3,4;5", "!a+!!k", "((((((((!a))))))))&((((((((!k))))))))",
            "1;".repeat(79) + "12", "a-k*c/p+n-s<w"};
        for (String text : good) {
            Check.due("16: good " + text, Check.law(new DuskShelves(), 1, 0, text), 0);
        }
    }

    private static void law() {
        DuskShelves x = new DuskShelves();
        Check.tape(x, "1");
        Check.due("16: use 2", x.law(2, 0), BAD);
        Check.due("16: use -1", x.law(-1, 0), BAD);
        Check.due("16: day -1", x.law(0, -1), BAD);
        Check.due("16: day 1500", x.law(0, 1500), BAD);
        Check.due("16: the tape stays", x.count(7), 1);
        Check.due("16: law", x.law(0, 1499), 0);
        Check.due("16: the tape is empty", x.count(7), 0);
        Check.tape(x, "1+");
        Check.due("16: fault", x.law(1, 0), -102);
        Check.due("16: empty by a fault too", x.count(7), 0);
        for (int i = 1; i < 16; i++) {
            Check.due("16: law", Check.law(x, i % 2, 0, "1"), i);
        }
        Check.due("16: a seventeenth", Check.law(x, 0, 0, "1"), FULL);
        Check.due("16: the tape stays", x.count(7), 1);
        Check.due("16: a seventeenth, bad", x.law(0, 1500), BAD);
        Check.due("16: with a fault it is FULL as well", Check.law(x, 0, 0, "1+"), FULL);
        Check.due("16: count(4)", x.count(4), 16);
    }

    private static void inForce() {
        DuskShelves x = new DuskShelves();
        Check.law(x, 0, 5, "1");
        x.hours(48);
        Check.law(x, 0, 3, "2");
        Check.law(x, 1, 0, "3");
        Check.law(x, 0, 9, "4");
        int[][] due = {{0, 4, 0, NOT}, {0, 5, 0, 0}, {0, 5, 1, 0}, {0, 5, 2, 1}, {0, 2, 2, NOT}, {0, 3, 2, 1},
            {0, 8, 2, 1}, {0, 9, 2, 3}, {0, 1499, 1499, 3}, {0, 1499, 1, 0}, {1, 0, 1, NOT}, {1, 0, 2, 2},
            {2, 0, 0, BAD}, {-1, 0, 0, BAD}, {0, -1, 0, BAD}, {0, 1500, 0, BAD}, {0, 0, -1, BAD},
            {0, 0, 1500, BAD}};
        for (int[] d : due) {
            Check.due("17: inForce(" + d[0] + ", " + d[1] + ", " + d[2] + ")", x.inForce(d[0], d[1], d[2]), d[3]);
        }
    }

    private static void said(String text, int due) {
        DuskShelves x = new DuskShelves();
        for (int i = 0; i < 4; i++) {
            x.shop(0);
            x.kind(9, 9, 9, 0);
        }
        x.kind(9, 9, 9, 1);
        x.hours(24 * 9);
        x.hours(15);
        x.weather(9, 2);
        x.cut(3, 4, 1);
        x.warm(3, 4, 21);
        x.batch(3, 400, 7, 1);
        Check.law(x, 0, 9, text);
        Check.due("18: " + text, x.says(0, 0), due);
    }

    private static void says() {
        int[] due = {7, 4, 1, 2, 15, 1, 21, 3};
        for (int i = 0; i < 8; i++) {
            said("akcwhpns".substring(i, i + 1), due[i]);
        }
        said("1+2*3", 7);
        said("9-4-3", 2);
        said("100/7/2", 7);
        said("(0-7)/2", -3);
        said("7/(a-a)", 0);
        said("2*(3+4)", 14);
        said("!5", 0);
        said("!0", 1);
        said("!!5", 1);
        said("!0+5", 6);
        said("5|0", 1);
        said("0|0", 0);
        said("5&2", 1);
        said("5&0", 0);
        said("1|0&0", 1);
        said("2<3", 1);
        said("3<3", 0);
        said("3=3", 1);
        said("3=4", 0);
        said("4>3", 1);
        said("3>4", 0);
        said("1+2=3&4>3", 1);
        said("2=2+0*9", 1);
        said("0,5", 0);
        said("7,5", 5);
        said("0,5;6", 6);
        said("0,5;0-1,6;7", 6);
        said("3;4", 3);
        said("1,0;4", 0);
        said("9999*9999*9999", 9999 * 9999 * 9999);
        said("9999*9999*43-9999*9999*22", 2099580021);
        said("(0-8*4096*8192*8)/(0-1)", Integer.MIN_VALUE);
        said("(((((((((7)))))))))+(((((((((8)))))))))", 15);
        said("0,0;".repeat(39) + "!0+a", 8);
        DuskShelves x = new DuskShelves();
        Check.due("18: no law", x.says(0, 0), VOID);
        Check.law(x, 0, 0, "1");
        Check.due("18: no batch", x.says(0, 0), VOID);
        Check.due("18: law -1", x.says(-1, 0), VOID);
    }

    private static void aDayBegins() {
        DuskShelves x = new DuskShelves();
        x.shop(0);
        x.kind(10, 5, 100, 0);
        x.batch(0, 0, 0, 30);
        x.hours(20);
        x.weather(2, 1);
        x.batch(0, 1, 0, 7);
        // Sold with a STEP or WARM HOURS alone, or ahead of rain: a DAY begins without the former two.
        Check.law(x, 0, 1, "p|n|!w|h");
        x.cut(0, 0, 3);
        x.warm(0, 0, 3);
        x.hours(4);
        Check.due("7: fair on day 1", x.shelf(0, 0, 0), 37);
        x.cut(0, 0, 3);
        x.warm(0, 0, 3);
        x.hours(23);
        Check.due("7: the last hour of day 1", x.shelf(0, 0, 1), 37);
        x.hours(49);
        Check.due("7: thrown as day 2 begins", x.shelf(0, 0, 0), 0);
        Check.due("36: on day 2", x.tossed(2), 3700);
        Check.due("36: not on day 1", x.tossed(1), 0);
        Check.due("36: not on day 3", x.tossed(3), 0);
        Check.due("40: thrown", x.count(12), 37);
        Check.due("12: none of it spoiled early", x.ofBatch(0, 10), 0);
        Check.law(x, 1, 0, "0");
        x.batch(0, 0, 0, 5);
        x.hours(24);
        Check.due("7: what may not be given stays", x.shelf(0, 0, 0), 5);
    }

    public static void main(String[] args) {
        feedAndEnd();
        faults();
        goodTexts();
        law();
        inForce();
        says();
        aDayBegins();
        Check.end("LawsTest");
    }
}
