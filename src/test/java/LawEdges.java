/** TEXTS and promises 14 to 18, sentence by sentence. */
final class LawEdges {
    private static final int BAD = DuskShelves.BAD, NOT = DuskShelves.NOT, FULL = DuskShelves.FULL;
    private static final int VOID = DuskShelves.VOID;

    private LawEdges() {
    }

    static void all() {
        laws();
        tape();
        clauses();
        signs();
        operands();
        reckoning();
        names();
        faults();
        feed();
        law();
        inForce();
        says();
    }

    private static void laws() {
        Sentence.test(17, "LAWS are TEXTS of a USE: 0 SELL, 1 GIVE; made on a DAY, for DAYS from one on; in force on "
            + "a DAY AS KNOWN on DAY k: of that USE those made on DAY k or ahead, for that DAY or an earlier one: the "
            + "one made last.", () -> {
            DuskShelves x = Worlds.shops(0, 5, 0);
            Check.law(x, 0, 10, "1");
            Check.due("a DAY ahead of its first DAY", x.inForce(0, 9, 5), NOT);
            Check.due("on its first DAY", x.inForce(0, 10, 5), 0);
            Check.due("a DAY behind", x.inForce(0, 11, 5), 0);
            Check.due("on the last DAY of all", x.inForce(0, 1499, 5), 0);
            Check.due("as known on the DAY ahead", x.inForce(0, 10, 4), NOT);
            Check.due("as known on the DAY behind", x.inForce(0, 10, 6), 0);
            Check.due("of the other USE", x.inForce(1, 10, 5), NOT);
            Check.law(x, 0, 0, "1");
            Check.due("two of one DAY: the one made last", x.inForce(0, 10, 5), 1);
            x.hours(24);
            Check.law(x, 0, 11, "1");
            Check.due("made a DAY later, as known ahead", x.inForce(0, 11, 5), 1);
            Check.due("made a DAY later, as known then", x.inForce(0, 11, 6), 2);
            Check.due("made later, but not for that DAY yet", x.inForce(0, 10, 6), 1);
            Check.law(x, 1, 0, "1");
            Check.due("GIVE has its own", x.inForce(1, 0, 6), 3);
            Check.due("SELL keeps its own", x.inForce(0, 11, 6), 2);
            Check.law(x, 0, 3, "1");
            Check.due("the one made last, for more DAYS", x.inForce(0, 11, 6), 4);
            Check.due("ahead of these DAYS", x.inForce(0, 2, 6), 1);
        });
        Sentence.test(13, "Without any: 1.", () -> {
            DuskShelves x = Worlds.shops(1, 1, 6);
            x.batch(0, 0, 1, 7);
            Check.due("all MAY BE SOLD", x.shelf(0, 0, 1), 7);
            Check.due("all MAY BE GIVEN", x.shelf(0, 0, 2), 7);
            Check.law(x, 0, 2, "0");
            Check.law(x, 1, 2, "0");
            Check.due("none for TODAY yet", x.shelf(0, 0, 1) + x.shelf(0, 0, 2), 14);
        });
    }

    private static void tape() {
        Sentence.test(14, "THE TAPE (at most 160 bytes):", () -> {
            DuskShelves x = new DuskShelves();
            for (int i = 1; i <= 7; i++) {
                x.feed(1, 1, 1, 1, 1);
            }
            Check.due("140 bytes", x.count(7), 140);
            Check.due("160 bytes", x.feed(1, 1, 1, 1, 1), 160);
            Check.due("180 bytes", x.feed(1, 1, 1, 1, 1), FULL);
            Check.due("160 still", x.count(7), 160);
            Worlds.good("1;".repeat(79) + "11");
            Check.due("all 160 count", Worlds.value("0,1;".repeat(39) + "!0*7"), 7);
        });
    }

    private static void clauses() {
        Sentence.test(16, "CLAUSES, one or more, parted by ; .", () -> {
            Worlds.fault("", 0);
            Worlds.good("1");
            Worlds.good("1;2");
            Worlds.good("1;2;3");
            Worlds.fault(";", 0);
            Worlds.fault(";1", 0);
            Worlds.fault("1;", 2);
            Worlds.fault("1;;2", 2);
            Worlds.good("1;".repeat(79) + "1");
        });
        Sentence.test(16, "CLAUSE: E, or E , E (a TEST, and what counts if it is not 0).", () -> {
            Worlds.value("5", 5);
            Worlds.value("1,5", 5);
            Worlds.value("0,5", 0);
            Worlds.value("0-1,5", 5);
            Worlds.fault(",5", 0);
            Worlds.fault("1,", 2);
            Worlds.fault("1,,5", 2);
            Worlds.fault("1,5,6", 3);
            Worlds.fault("(1,5)", 2);
            Worlds.fault("(1;5)", 2);
            Worlds.value("1,5;1,6", 5);
        });
        Sentence.test(18, "The first CLAUSE without TEST, or whose TEST is not 0, counts; 0 if none.", () -> {
            Worlds.value("3;4", 3);
            Worlds.value("0;4", 0);
            Worlds.value("0,3;4", 4);
            Worlds.value("1,3;4", 3);
            Worlds.value("1,0;4", 0);
            Worlds.value("0-1,3;4", 3);
            Worlds.value("0,3;0,4;2,5;6", 5);
            Worlds.value("0,3", 0);
            Worlds.value("0,3;0,4", 0);
            Worlds.value("0,3;".repeat(39) + "9", 9);
            Worlds.value("0,3;".repeat(39) + "0,9", 0);
        });
    }

    private static void signs() {
        Sentence.test(16, "E = A { | A }.", () -> {
            Worlds.good("1");
            Worlds.good("1|2");
            Worlds.good("1|2|3");
            Worlds.fault("|1", 0);
            Worlds.fault("1|", 2);
            Worlds.fault("1||2", 2);
            Worlds.value("0|0|1", 1);
            Worlds.value("1|0&0", 1);
            Worlds.value("0&0|1", 1);
            Worlds.good("1" + "|1".repeat(79));
        });
        Sentence.test(16, "A = B { & B }.", () -> {
            Worlds.good("1&2");
            Worlds.good("1&2&3");
            Worlds.fault("&1", 0);
            Worlds.fault("1&", 2);
            Worlds.fault("1&&2", 2);
            Worlds.value("1&1&0", 0);
            Worlds.value("1|1&0", 1);
            Worlds.value("(1|1)&0", 0);
            Worlds.value("1&0=0", 1);
            Worlds.value("0=1&0", 0);
            Worlds.good("1" + "&1".repeat(79));
        });
        Sentence.test(16, "B = S, or S < S, S = S, S > S.", () -> {
            for (String sign : new String[] {"<", "=", ">"}) {
                Worlds.good("1" + sign + "2");
                Worlds.fault("1" + sign, 2);
                Worlds.fault(sign + "1", 0);
                Worlds.fault("1" + sign + sign + "2", 2);
                for (String next : new String[] {"<", "=", ">"}) {
                    Worlds.fault("1" + sign + "2" + next + "3", 3);
                    Worlds.good("(1" + sign + "2)" + next + "3");
                    Worlds.good("1" + sign + "(2" + next + "3)");
                    Worlds.good("1" + sign + "2&3" + next + "4");
                    Worlds.good("1" + sign + "2|3" + next + "4");
                    Worlds.good("1" + sign + "2,3" + next + "4");
                    Worlds.good("1" + sign + "2;3" + next + "4");
                }
            }
            Worlds.value("1+1=2", 1);
            Worlds.value("3=1+2", 1);
            Worlds.value("(2<1)<1", 1);
            Worlds.fault("1<2+3*4=5", 7);
        });
        Sentence.test(16, "S = P { + P, - P }.", () -> {
            Worlds.value("7", 7);
            Worlds.value("7-2", 5);
            Worlds.value("7-2-3", 2);
            Worlds.value("7-2+3", 8);
            Worlds.value("7+2-3", 6);
            Worlds.value("7-2*3", 1);
            Worlds.value("7+2*3", 13);
            Worlds.fault("+1", 0);
            Worlds.fault("-1", 0);
            Worlds.fault("1+", 2);
            Worlds.fault("1-", 2);
            Worlds.fault("1+-2", 2);
            Worlds.value("1" + "+1".repeat(79), 80);
            Worlds.value("1" + "-1".repeat(79), -78);
        });
        Sentence.test(16, "P = O { * O, / O }.", () -> {
            Worlds.value("7", 7);
            Worlds.value("7*2", 14);
            Worlds.value("7*2*3", 42);
            Worlds.value("42/2/3", 7);
            Worlds.value("7/2*2", 6);
            Worlds.value("2*7/2", 7);
            Worlds.value("1+2*3", 7);
            Worlds.value("6-4/2", 4);
            Worlds.fault("*1", 0);
            Worlds.fault("/1", 0);
            Worlds.fault("1*", 2);
            Worlds.fault("1/", 2);
            Worlds.fault("1*/2", 2);
            Worlds.value("1" + "*1".repeat(79), 1);
        });
    }

    private static void operands() {
        Sentence.test(16, "O = a number (1 to 4 digits),", () -> {
            Worlds.fault("", 0);
            Worlds.value("0", 0);
            Worlds.value("9", 9);
            Worlds.value("99", 99);
            Worlds.value("9999", 9999);
            Worlds.value("0009", 9);
            Worlds.fault("99999", 4);
            Worlds.fault("00001", 4);
            Worlds.fault("1+10000", 6);
            Worlds.value("9999+9999", 19998);
            Worlds.fault("/", 0);
            Worlds.fault(":", 0);
        });
        Sentence.test(16, "a NAME, ! O (1 if that is 0, else 0), ( E ).", () -> {
            for (char sign = 'a'; sign <= 'z'; sign++) {
                if ("akcwhpns".indexOf(sign) >= 0) {
                    Worlds.good("" + sign);
                } else {
                    Worlds.fault("" + sign, 0);
                }
                Worlds.fault("" + (char) (sign - 32), 0);
            }
            Worlds.fault("ak", 1);
            Worlds.fault("1a", 1);
            Worlds.fault("a1", 1);
            Worlds.value("!0", 1);
            Worlds.value("!1", 0);
            Worlds.value("!(0-1)", 0);
            Worlds.value("!!7", 1);
            Worlds.value("!0+1", 2);
            Worlds.value("!0*5", 5);
            Worlds.fault("!", 1);
            Worlds.fault("1!", 1);
            Worlds.value("(7)", 7);
            Worlds.value("2*(3+4)", 14);
            Worlds.value("(1|0)+1", 2);
            Worlds.fault("()", 1);
            Worlds.fault("(1", 2);
            Worlds.fault("1)", 1);
            Worlds.fault("(1))", 3);
            Worlds.fault("1(2)", 1);
        });
        Sentence.test(16, "No blanks.", () -> {
            Worlds.good("1+1");
            Worlds.fault(" 1+1", 0);
            Worlds.fault("1 +1", 1);
            Worlds.fault("1+ 1", 2);
            Worlds.fault("1+1 ", 3);
            Worlds.fault("1\t", 1);
            Worlds.fault("1\n", 1);
            Worlds.fault("1\0", 1);
        });
        Sentence.test(16, "At most 9 of ( and ! are open at once.", () -> {
            Worlds.good("!!!!!!!!!a");
            Worlds.fault("!!!!!!!!!!a", 9);
            Worlds.good("(((((((((a)))))))))");
            Worlds.fault("((((((((((a", 9);
            Worlds.good("(!(!(!(!(a)))))");
            Worlds.fault("(!(!(!(!(!a", 9);
            Worlds.fault("!(!(!(!(!(a", 9);
            Worlds.good("((((((((!a))))))))");
            Worlds.fault("(((((((((!a", 9);
            Worlds.fault("!!!!!!!!!(a", 9);
            // What was closed counts no more.
            Worlds.good("!!!!!!!!!a+!!!!!!!!!a");
            Worlds.fault("!!!!!!!!!a+!!!!!!!!!!a", 20);
            Worlds.good("(((((((((a)))))))))*(((((((((a)))))))))");
            Worlds.fault("(((((((((a)))))))))*((((((((((a", 29);
            Worlds.good("((((((((!a+!a+(a)))))))))");
            Worlds.fault("((((((((!a+!(a", 12);
            Worlds.good("!!!!!!!!!a,!!!!!!!!!a;!!!!!!!!!a");
            Worlds.fault("!!!!!!!!!a;(((((((((!a", 20);
            Worlds.fault("!!!!!!!!!a,!!!!!!!!!!a", 20);
            Worlds.fault("1,((((((((((a", 11);
        });
    }

    private static void reckoning() {
        Sentence.test(18, "Ints that wrap;", () -> {
            // 2147483647 is 46340 * 46341 + 41707.
            String most = "9268*5*9268*5+9268*5+4170*10+7";
            Worlds.value(most, Integer.MAX_VALUE);
            Worlds.value(most + "+1", Integer.MIN_VALUE);
            Worlds.value("0-(" + most + ")-1", Integer.MIN_VALUE);
            Worlds.value("0-(" + most + ")-2", Integer.MAX_VALUE);
            Worlds.value("4096*8192*64", Integer.MIN_VALUE);
            Worlds.value("4096*8192*64*2", 0);
            Worlds.value("4096*8192*64/(0-1)", Integer.MIN_VALUE);
            Worlds.value("4096*8192*64<0", 1);
        });
        Sentence.test(18, "/ toward 0, by 0 it gives 0;", () -> {
            Worlds.value("7/2", 3);
            Worlds.value("(0-7)/2", -3);
            Worlds.value("7/(0-2)", -3);
            Worlds.value("(0-7)/(0-2)", 3);
            Worlds.value("1/2", 0);
            Worlds.value("(0-1)/2", 0);
            Worlds.value("7/0", 0);
            Worlds.value("(0-7)/0", 0);
            Worlds.value("0/0", 0);
            Worlds.value("7/1", 7);
            Worlds.value("7/(0-1)", -7);
            Worlds.value("7/0*3+5", 5);
        });
        Sentence.test(18, "| & < = > ! give 1, 0;", () -> {
            int[] values = {-2, -1, 0, 1, 2};
            for (int a : values) {
                for (int b : values) {
                    String left = a < 0 ? "(0-" + -a + ")" : "" + a;
                    String right = b < 0 ? "(0-" + -b + ")" : "" + b;
                    Worlds.value(left + "|" + right, a != 0 || b != 0 ? 1 : 0);
                    Worlds.value(left + "&" + right, a != 0 && b != 0 ? 1 : 0);
                    Worlds.value(left + "<" + right, a < b ? 1 : 0);
                    Worlds.value(left + "=" + right, a == b ? 1 : 0);
                    Worlds.value(left + ">" + right, a > b ? 1 : 0);
                }
                Worlds.value("!" + (a < 0 ? "(0-" + -a + ")" : "" + a), a == 0 ? 1 : 0);
            }
        });
        Sentence.test(18, "all is worked out.", () -> {
            Worlds.value("1|1/0", 1);
            Worlds.value("0&1/0", 0);
            Worlds.value("1/0|1", 1);
            Worlds.value("1/0&1", 0);
            Worlds.value("1,2;1/0,3/0;4", 2);
            Worlds.value("0,1/0;1/0,2;3", 3);
        });
    }

    /** What a NAME gives of BATCH 0 in the last SHOP and KIND of all. */
    private static DuskShelves named(String name) {
        DuskShelves x = Worlds.shops(12, 20, 0);
        for (int i = 1; i < 9; i++) {
            x.kind(1, 1, 1, 0);
        }
        x.kind(1, 1, 1, 1);
        Check.due("LAW " + name, Check.law(x, 0, 1499, name), 0);
        return x;
    }

    private static void names() {
        Sentence.test(18, "a DAYS since it was MADE,", () -> {
            DuskShelves x = named("a");
            x.batch(0, 0, 0, 1);
            x.batch(0, 0, 9, 1);
            Check.due("made TODAY", x.says(0, 0), 0);
            Check.due("made 9 DAYS ago", x.says(0, 1), 9);
            x.hours(23);
            Check.due("TODAY still", x.says(0, 0), 0);
            x.hours(1);
            Check.due("a DAY later", x.says(0, 0), 1);
            Check.due("10 DAYS", x.says(0, 1), 10);
            Worlds.until(x, 1499, 23);
            Check.due("at last", x.says(0, 0), 1479);
        });
        Sentence.test(18, "k KIND, c 1 if COLD,", () -> {
            DuskShelves x = named("k");
            Check.law(x, 0, 1499, "c");
            x.batch(0, 0, 0, 1);
            x.batch(0, 900, 0, 1);
            Check.due("KIND 0", x.says(0, 0), 0);
            Check.due("KIND 9", x.says(0, 1), 9);
            Check.due("not COLD", x.says(1, 0), 0);
            Check.due("COLD", x.says(1, 1), 1);
        });
        Sentence.test(18, "w WEATHER of the DAY,", () -> {
            DuskShelves x = named("w");
            x.batch(0, 0, 1, 1);
            x.weather(19, 1);
            x.weather(21, 1);
            Check.due("fair", x.says(0, 0), 0);
            x.weather(20, 2);
            Check.due("heat", x.says(0, 0), 2);
            x.hours(24);
            Check.due("rain on the next DAY", x.says(0, 0), 1);
        });
        Sentence.test(18, "h the hour of the DAY (0 .. 23),", () -> {
            DuskShelves x = named("h");
            x.batch(0, 0, 0, 1);
            for (int hour = 0; hour <= 23; hour++) {
                Check.due("hour " + hour, x.says(0, 0), hour);
                x.hours(1);
            }
            Check.due("hour 0 again", x.says(0, 0), 0);
        });
        Sentence.test(18, "p its STEP,", () -> {
            DuskShelves x = named("p");
            x.batch(11, 900, 0, 1);
            x.batch(0, 900, 0, 1);
            x.batch(11, 800, 0, 1);
            Check.due("0 at first", x.says(0, 0), 0);
            for (int step = 1; step <= 3; step++) {
                x.cut(11, 9, step);
                Check.due("STEP " + step, x.says(0, 0), step);
            }
            Check.due("of another SHOP", x.says(0, 1), 0);
            Check.due("of another KIND", x.says(0, 2), 0);
            x.hours(24);
            Check.due("0 when a DAY begins", x.says(0, 0), 0);
        });
        Sentence.test(18, "n WARM HOURS of its KIND in its SHOP (told that DAY: 0 at first),", () -> {
            DuskShelves x = named("n");
            x.batch(11, 900, 0, 1);
            x.batch(0, 900, 0, 1);
            x.batch(11, 800, 0, 1);
            Check.due("0 at first", x.says(0, 0), 0);
            x.warm(11, 9, 24);
            Check.due("24", x.says(0, 0), 24);
            x.warm(11, 9, 1);
            Check.due("1", x.says(0, 0), 1);
            Check.due("of another SHOP", x.says(0, 1), 0);
            Check.due("of another KIND", x.says(0, 2), 0);
            x.hours(23);
            Check.due("in the last HOUR of that DAY", x.says(0, 0), 1);
            x.hours(1);
            Check.due("0 when a DAY begins", x.says(0, 0), 0);
        });
        Sentence.test(18, "s SHOP.", () -> {
            DuskShelves x = named("s");
            x.batch(0, 0, 0, 2);
            x.batch(11, 0, 0, 1);
            x.move(0, 7, 0, 1);
            Check.due("SHOP 0", x.says(0, 0), 0);
            Check.due("SHOP 11", x.says(0, 1), 11);
            Check.due("where it was MOVED", x.says(0, 2), 7);
        });
        Sentence.test(18, "NAMES:", () -> {
            DuskShelves x = Worlds.shops(2, 3, 0);
            x.kind(1, 1, 1, 1);
            x.batch(1, 100, 2, 5);
            x.weather(4, 2);
            Check.law(x, 0, 0, "a=3&k=1&c=1&w=2&h=0&p=0&n=0&s=1");
            x.cut(1, 1, 3);
            x.warm(1, 1, 3);
            x.hours(24);
            Check.due("when the DAY begins", x.shelf(1, 1, 0), 5);
            x.hours(24);
            Check.due("no more when the next one does", x.shelf(1, 1, 0), 0);
        });
    }

    private static void faults() {
        Sentence.test(16, "FAULT: the place (from 0) of the first byte with which no TEXT goes on;", () -> {
            Worlds.fault("?", 0);
            Worlds.fault("1?", 1);
            Worlds.fault("1+?", 2);
            Worlds.fault("?1;?2", 0);
            Worlds.fault("1;?2", 2);
            Worlds.fault("1+1)(", 3);
            Worlds.fault("\u0080", 0);
            Worlds.fault("1\u00ff", 1);
            Worlds.fault("1;".repeat(79) + "1)", 159);
            Worlds.fault("1;".repeat(79) + "?1", 158);
            for (char sign : "(!ak1?".toCharArray()) {
                Worlds.fault("a" + sign + "+1", 1);
                Worlds.fault("(1)" + sign + "+1", 3);
            }
            for (char sign : ")|&<=>+-*/,;?".toCharArray()) {
                Worlds.fault("" + sign, 0);
                Worlds.fault("1+" + sign + "1", 2);
                Worlds.fault("!" + sign + "1", 1);
                Worlds.fault("(" + sign + "1)", 1);
            }
        });
        Sentence.test(16, "the length, if it ends too early.", () -> {
            Worlds.fault("", 0);
            for (String open : new String[] {"!", "(", "(1", "1+", "1-", "1*", "1/", "1<", "1=", "1>", "1&", "1|", "1,",
                "1;", "1,2;", "((1)", "!!!!!!!!!", "((((((((("}) {
                Worlds.fault(open, open.length());
            }
            Worlds.fault("1;".repeat(79) + "(1", 160);
            Worlds.fault("1;".repeat(78) + "1+1,", 160);
        });
    }

    private static void feed() {
        Sentence.test(14, "Twenty bytes more come to THE TAPE, the highest of each number first: how many it "
            + "has.", () -> {
            DuskShelves x = Worlds.shops(1);
            x.batch(0, 0, 0, 1);
            // 9876-5432+10*20-1+02
            Check.due("twenty", x.feed(0x39383736, 0x2d353433, 0x322b3130, 0x2a32302d, 0x312b3032), 20);
            Check.due("LAW", x.law(0, 0), 0);
            Check.due("as it reads", x.says(0, 0), 4645);
            Check.due("the first byte", x.feed(0xff313131, 0, 0, 0, 0), 20);
            Check.due("its FAULT", x.law(0, 0), -100);
            Check.due("a byte of 128 and more", x.feed(0x31b13131, 0, 0, 0, 0), 20);
            Check.due("is not the one of 128 less", x.law(0, 0), -101);
            Check.due("the last byte", x.feed(0x31313131, 0x2b313131, 0x312b3131, 0x31312b31, 0x313131ff), 20);
            Check.due("its FAULT", x.law(0, 0), -119);
            x.feed(0x312b3128, 0x31292b31, 0, 0, 0);
            x.end(3);
            Check.due("twenty behind three", x.feed(0x2d312b31, 0x2b312b31, 0x2b312b31, 0x2b312b31, 0x2b312b31), 23);
            Check.due("LAW", x.law(0, 0), 1);
            Check.due("1+1 and what came behind", x.says(1, 0), 2 - 1 + 9);
        });
        Sentence.test(14, "FULL.", () -> {
            for (int had : new int[] {139, 140, 141, 142, 159, 160}) {
                DuskShelves x = new DuskShelves();
                for (int i = 0; i < 8; i++) {
                    x.feed(0, 0, 0, 0, 0);
                }
                x.end(had);
                Check.due("behind " + had, x.feed(0, 0, 0, 0, 0), had <= 140 ? had + 20 : FULL);
                Check.due("THE TAPE then", x.count(7), had <= 140 ? had + 20 : had);
            }
        });
        Sentence.test(15, "THE TAPE keeps its first n bytes: n.", () -> {
            DuskShelves x = Worlds.shops(1);
            x.batch(0, 0, 0, 1);
            x.feed(0x31323334, 0x2b352020, 0, 0, 0);
            Check.due("six of twenty", x.end(6), 6);
            Check.due("all six", x.end(6), 6);
            Check.due("the first two", x.end(2), 2);
            Check.due("LAW", x.law(0, 0), 0);
            Check.due("12", x.says(0, 0), 12);
            x.feed(0x31323334, 0, 0, 0, 0);
            Check.due("none", x.end(0), 0);
            Check.due("no TEXT", x.law(0, 0), -100);
        });
        Sentence.test(15, "BAD.", () -> {
            Check.bounds("end(*) of 0", 0, 0, BAD, v -> new DuskShelves().end(v));
            Check.bounds("end(*) of 20", 0, 20, BAD, v -> {
                DuskShelves x = new DuskShelves();
                x.feed(0, 0, 0, 0, 0);
                return x.end(v);
            });
            DuskShelves x = new DuskShelves();
            x.feed(0, 0, 0, 0, 0);
            x.end(5);
            Check.due("what was cut off", x.end(6), BAD);
            x.end(-1);
            Check.due("it keeps what it had", x.count(7), 5);
        });
    }

    private static void law() {
        Sentence.test(16, "THE TAPE becomes a LAW of a USE for DAYS from one on, made TODAY: its number (0 .. "
            + "15);", () -> {
            DuskShelves x = Worlds.shops(0, 5, 0);
            for (int i = 0; i <= 15; i++) {
                Check.due("LAW " + i, Check.law(x, i % 2, 5 + i, "1"), i);
            }
            Check.due("LAW 16", Check.law(x, 0, 0, "1"), FULL);
            Check.due("made TODAY", x.inForce(0, 5, 5), 0);
            Check.due("not yesterday", x.inForce(0, 5, 4), NOT);
            Check.due("made TODAY for later DAYS", x.inForce(0, 1499, 5), 14);
            DuskShelves y = Worlds.shops(0, 5, 0);
            Check.law(y, 0, 0, "1");
            Check.due("made TODAY for DAYS ahead", y.inForce(0, 0, 5), 0);
            Check.due("not yesterday for these", y.inForce(0, 0, 4), NOT);
            Check.due("the last of SELL", x.inForce(0, 1499, 1499), 14);
            Check.due("the last of GIVE", x.inForce(1, 1499, 1499), 15);
            Check.due("a DAY ahead of the last of GIVE", x.inForce(1, 19, 1499), 13);
        });
        Sentence.test(16, "-100 less its FAULT;", () -> {
            DuskShelves x = new DuskShelves();
            Check.due("FAULT 0", Check.law(x, 0, 0, ""), -100);
            Check.due("FAULT 1", Check.law(x, 0, 0, "1)"), -101);
            Check.due("FAULT 159", Check.law(x, 0, 0, "1;".repeat(79) + "1)"), -259);
            Check.due("FAULT 160", Check.law(x, 0, 0, "1;".repeat(79) + "(1"), -260);
            Check.due("none of these is a LAW", x.count(4), 0);
            Check.due("the first that is", Check.law(x, 0, 0, "1"), 0);
        });
        Sentence.test(16, "THE TAPE is empty then.", () -> {
            DuskShelves x = new DuskShelves();
            Check.law(x, 0, 0, "1+1");
            Check.due("behind a LAW", x.count(7), 0);
            Check.law(x, 0, 0, "1+1)");
            Check.due("behind a FAULT", x.count(7), 0);
            Check.due("twenty bytes are all it has", x.feed(0, 0, 0, 0, 0), 20);
        });
        Sentence.test(16, "BAD (day 0 .. 1499), FULL (THE TAPE stays).", () -> {
            Check.bounds("law(0, *)", 0, 1499, BAD, v -> tape("1").law(0, v));
            Check.bounds("law(*, 0)", 0, 1, BAD, v -> tape("1").law(v, 0));
            DuskShelves x = tape("1+1");
            x.law(2, 0);
            x.law(-1, 0);
            x.law(0, 1500);
            x.law(0, -1);
            Check.due("THE TAPE stays when BAD", x.count(7), 3);
            Check.due("no LAW when BAD", x.count(4), 0);
            for (int i = 0; i < 15; i++) {
                Check.law(x, 0, 0, "1");
            }
            Check.due("the one that fills", Check.law(x, 0, 1499, "1"), 15);
            Check.due("one more", Check.law(x, 0, 0, "1+1"), FULL);
            Check.due("THE TAPE stays when FULL", x.count(7), 3);
            Check.due("BAD ahead of FULL: USE", x.law(2, 0), BAD);
            Check.due("BAD ahead of FULL: DAY", x.law(0, 1500), BAD);
            Check.due("a TEXT with a FAULT stays as well", Check.law(x, 0, 0, "1+"), FULL);
            Check.due("both bytes of it", x.count(7), 2);
            Check.due("sixteen LAWS", x.count(4), 16);
        });
    }

    private static DuskShelves tape(String text) {
        DuskShelves x = new DuskShelves();
        Check.tape(x, text);
        return x;
    }

    private static void inForce() {
        Sentence.test(17, "The LAW of a USE in force on a DAY AS KNOWN on DAY k; NOT: none.", () -> {
            DuskShelves x = new DuskShelves();
            Check.due("none at all", x.inForce(0, 0, 0), NOT);
            Check.law(x, 1, 1, "1");
            Check.due("none for that DAY", x.inForce(1, 0, 0), NOT);
            Check.due("LAW 0", x.inForce(1, 1, 0), 0);
            Check.due("none of that USE", x.inForce(0, 1, 0), NOT);
            x.hours(24);
            Check.law(x, 0, 0, "1");
            Check.due("none known on that DAY", x.inForce(0, 0, 0), NOT);
            Check.due("LAW 1", x.inForce(0, 0, 1), 1);
        });
        Sentence.test(17, "BAD.", () -> {
            Check.bounds("inForce(*, 0, 0)", 0, 1, BAD, v -> new DuskShelves().inForce(v, 0, 0));
            Check.bounds("inForce(0, *, 0)", 0, 1499, BAD, v -> new DuskShelves().inForce(0, v, 0));
            Check.bounds("inForce(0, 0, *)", 0, 1499, BAD, v -> new DuskShelves().inForce(0, 0, v));
        });
    }

    private static DuskShelves oneLaw() {
        DuskShelves x = Worlds.shops(1);
        x.batch(0, 0, 0, 1);
        Check.law(x, 0, 1499, "7");
        return x;
    }

    private static void says() {
        Sentence.test(18, "What a LAW gives of a BATCH now.", () -> {
            DuskShelves x = Worlds.shops(1);
            x.batch(0, 0, 0, 1);
            Check.law(x, 1, 1499, "h+24*a");
            Check.law(x, 0, 0, "9");
            Check.due("in force or not, at HOUR 0", x.says(0, 0), 0);
            Check.due("of either USE", x.says(1, 0), 9);
            x.hours(1);
            Check.due("at HOUR 1", x.says(0, 0), 1);
            x.hours(23);
            Check.due("at HOUR 24", x.says(0, 0), 24);
            x.bin(0, 1, 0);
            Check.due("of a BATCH of which nothing is left", x.says(0, 0), 24);
        });
        Sentence.test(18, "VOID: BAD.", () -> {
            Check.bounds("says(*, 0)", 0, 0, VOID, v -> oneLaw().says(v, 0));
            Check.bounds("says(0, *)", 0, 0, VOID, v -> oneLaw().says(0, v));
            Check.due("no LAW at all", Worlds.shops(1).says(0, 0), VOID);
            DuskShelves x = Worlds.shops(1);
            Check.law(x, 0, 0, "1");
            Check.due("no BATCH at all", x.says(0, 0), VOID);
            x.batch(0, 0, 0, 1);
            Check.law(x, 0, 0, "1+");
            Check.due("a TEXT with a FAULT is no LAW", x.says(1, 0), VOID);
        });
    }
}
