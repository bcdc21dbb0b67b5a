/** The bounds of THE TAPE, CLAUSES, numbers, TESTS, what is open, FAULTS, TOWNS and BURST: promises 2 and 3. */
public final class TownBoundsTest {
    private static final int BAD = -2, FULL = -4;
    private static final Check CHECK = new Check("TownBoundsTest");

    private TownBoundsTest() {
    }

    private static void due(String call, long got, long want) {
        CHECK.due(call, got, want);
    }

    private static void townIs(String text, int want) {
        due("town of '" + text + "'", Made.town(new StarchedCollars(), text), want);
    }

    private static void faultIs(String text, int fault) {
        townIs(text, -10 - fault);
    }

    private static int rise(String town) {
        return Made.one(town, 0, 0).of(0, 7);
    }

    // ---- the tape

    private static void signs() {
        CHECK.says("A sign (0 .. 127) comes behind THE TAPE's: how many it has. BAD");
        StarchedCollars x = new StarchedCollars();
        due("feed(0)", x.feed(0), 1);
        due("feed(127)", x.feed(127), 2);
        due("feed(-1)", x.feed(-1), BAD);
        due("feed(128)", x.feed(128), BAD);
        due("feed(256)", x.feed(256), BAD);
        due("feed(MIN)", x.feed(Integer.MIN_VALUE), BAD);
        due("feed(MAX)", x.feed(Integer.MAX_VALUE), BAD);
        due("count(5)", x.count(5), 2);
        for (int sign = 0; sign <= 127; sign++) {
            due("feed(" + sign + ")", new StarchedCollars().feed(sign), 1);
        }
    }

    private static void hundredSigns() {
        CHECK.says("THE TAPE (bytes, 100 at most); FULL");
        StarchedCollars x = new StarchedCollars();
        for (int i = 1; i <= 100; i++) {
            due("feed, the " + i + "th", x.feed('b'), i);
        }
        due("feed, the 101st", x.feed('b'), FULL);
        due("feed, the 101st again", x.feed('b'), FULL);
        due("feed, BAD ahead of FULL", x.feed(128), BAD);
        due("feed, BAD ahead of FULL, below", x.feed(-1), BAD);
        due("count(5)", x.count(5), 100);
        due("town", x.town(), -11);
        due("feed, when it is empty then", x.feed('b'), 1);
    }

    private static void townOfHundredSigns() {
        CHECK.says("A TOWN is read from THE TAPE, 100 at most");
        String text = "starch 7 p=1" + Made.times(21, "&p=1") + "|p=0";
        due("its signs", text.length(), 100);
        StarchedCollars x = new StarchedCollars();
        Made.feed(x, text);
        due("feed, the 101st", x.feed(';'), FULL);
        due("town", x.town(), 0);
        x.man(0, 0, 0, 0);
        due("rise by its last sign", x.of(0, 7), 10);
        String early = "starch 10 p=1" + Made.times(21, "&p=1") + "&p=";
        due("its signs", early.length(), 100);
        faultIs(early, 100);
        faultIs(early.substring(0, 99) + "!", 99);
    }

    private static void emptyTapes() {
        CHECK.says("THE TAPE, which is empty then (by a FAULT, too)");
        StarchedCollars x = new StarchedCollars();
        due("town of nothing", x.town(), -10);
        due("a town", Made.town(x, "burst 5"), 0);
        due("count(5) behind a town", x.count(5), 0);
        due("feed behind a town", x.feed('b'), 1);
        due("fault", x.town(), -11);
        due("count(5) behind a fault", x.count(5), 0);
        due("feed behind a fault", x.feed('b'), 1);
        Made.feed(x, "urst 6");
        due("what was fed ahead of the fault is gone", x.town(), 1);
        due("nothing is left", x.town(), -10);
        due("burst", x.told(1), 6);
    }

    private static void readToItsSize() {
        CHECK.says("a TOWN is read from THE TAPE, which is empty then: no sign of an older one is left");
        String text = "starch 12 !(p<5&k=10)";
        for (int size = 0; size < text.length(); size++) {
            StarchedCollars x = new StarchedCollars();
            due("the whole", Made.town(x, text), 0);
            due("the first " + size, Made.town(x, text.substring(0, size)), -10 - size);
            due("the whole again", Made.town(x, text), 1);
        }
    }

    // ---- clauses

    private static void tenClauses() {
        CHECK.says("CLAUSES, 10 at most, with ; between");
        townIs("burst 1", 0);
        String nine = Made.times(8, "burst 1;") + "burst 1";
        townIs(nine, 0);
        String ten = nine + ";burst 2";
        townIs(ten, 0);
        faultIs(ten + ";", 79);
        faultIs(ten + ";burst 1", 79);
        faultIs(ten + "x", 79);
        String mixed = "starch 1 p=0;burst 1;starch 2 p=0;burst 2;starch 4 p=0;burst 3;starch 8 p=0;burst 4;burst 5;";
        StarchedCollars x = Made.one(mixed + "burst 66", 0, 0);
        due("burst of the tenth", x.told(1), 66);
        due("rise by four of ten", x.of(0, 7), 18);
        StarchedCollars y = Made.one("starch 1 p=0;starch 2 p=0;starch 4 p=0;starch 8 p=0;starch 16 p=0;starch 32 p=0;"
            + "soften 9 p=0", 0, 0);
        due("rise by seven", y.of(0, 7), 3 + 63 - 9);
    }

    private static void noEmptyClause() {
        CHECK.says("with ; between");
        faultIs("", 0);
        faultIs(";", 0);
        faultIs(";burst 1", 0);
        faultIs("burst 1;", 8);
        faultIs("burst 1;;burst 1", 8);
        faultIs("burst 1,burst 1", 7);
        faultIs("burst 1burst 1", 7);
        faultIs("starch 1 p=0;", 13);
        faultIs("starch 1 p=0,", 12);
        townIs("starch 1 p=0;burst 1", 0);
        townIs("burst 1;soften 1 p=0", 0);
    }

    private static void oneBlank() {
        CHECK.says("one blank ahead of each part behind the word");
        faultIs(" burst 1", 0);
        faultIs("burst1", 5);
        faultIs("burst  1", 6);
        faultIs("burst 1 ", 7);
        faultIs("burst 1 p=0", 7);
        faultIs("burst 1 ;burst 1", 7);
        faultIs("burst 1; burst 1", 8);
        String[] words = {"starch", "soften"};
        for (String word : words) {
            faultIs(word + "1 p=0", 6);
            faultIs(word + "  1 p=0", 7);
            faultIs(word + " 1p=0", 8);
            faultIs(word + " 1  p=0", 9);
            faultIs(word + " 1 p =0", 10);
            faultIs(word + " 1 p= 0", 11);
            faultIs(word + " 1 p=0 ", 12);
            faultIs(word + " 1 p=0 &p=0", 12);
            faultIs(word + " 1 p=0& p=0", 13);
            faultIs(word + " 1 ! p=0", 10);
            faultIs(word + " 1 ( p=0)", 10);
            faultIs(word + " 1\tp=0", 8);
            faultIs(word + " 1", 8);
            faultIs(word + " 1;", 8);
            faultIs(word + " 1 ;", 9);
        }
    }

    private static void words() {
        CHECK.says("burst n; starch n E; soften n E");
        String[] wholes = {"burst 1", "starch 1 p=0", "soften 1 p=0"};
        for (String whole : wholes) {
            int letters = whole.indexOf(' ');
            for (int i = 0; i < letters; i++) {
                faultIs(whole.substring(0, i) + "X" + whole.substring(i + 1), i);
                String big = "" + (char) (whole.charAt(i) - 32);
                faultIs(whole.substring(0, i) + big + whole.substring(i + 1), i);
            }
            townIs(whole, 0);
        }
        faultIs("softch 1 p=0", 4);
        faultIs("starten 1 p=0", 4);
        faultIs("bstarch 1 p=0", 1);
    }

    /** A number stands behind that and ahead of this. */
    private static void numbers(String ahead, String behind) {
        int at = ahead.length();
        String[] good = {"0", "1", "9", "10", "19", "90", "99"};
        for (String n : good) {
            townIs(ahead + n + behind, 0);
        }
        String[] badSecond = {"00", "01", "09", "0:", "1/", "9:", "1a", "1-", "000"};
        for (String n : badSecond) {
            faultIs(ahead + n + behind, at + 1);
        }
        String[] badThird = {"100", "990", "10:", "99/", "999"};
        for (String n : badThird) {
            faultIs(ahead + n + behind, at + 2);
        }
        String[] badFirst = {"-1", "+1", "/", ":", "a", " 1", "\u00001", "(1"};
        for (String n : badFirst) {
            faultIs(ahead + n + behind, at);
        }
        faultIs(ahead, at);
    }

    private static void everyNumber() {
        CHECK.says("n 1 or 2 digits, no 0 ahead of another; a number likewise");
        numbers("burst ", "");
        numbers("burst ", ";burst 1");
        numbers("starch ", " p=0");
        numbers("soften ", " p=0");
        String[] tests = {"p", "k", "v", "c", "h", "w"};
        for (String test : tests) {
            numbers("starch 1 " + test + "<", "");
            numbers("starch 1 " + test + "=", "&p=0");
            numbers("starch 1 !(" + test + ">", ")");
        }
        for (int n = 0; n <= 99; n++) {
            due("burst " + n, Made.inTown("burst " + n).told(1), n);
            due("starch " + n, rise("starch " + n + " p=0"), 3 + n);
            due("soften " + n, rise("soften " + n + " p=0"), 3 - n);
        }
    }

    // ---- what is open

    private static void fiveOpen() {
        CHECK.says("At most 5 of ! and ( are open");
        String[] five = {"!!!!!", "(((((", "!(!(!", "(!(!(", "((!!(", "!!(((", "((((!"};
        String[] ends = {"", ")))))", "))", ")))", ")))", ")))", "))))"};
        for (int i = 0; i < five.length; i++) {
            townIs("starch 1 " + five[i] + "p=0" + ends[i], 0);
            faultIs("starch 1 " + five[i] + "!p=0" + ends[i], 14);
            faultIs("starch 1 " + five[i] + "(p=0)" + ends[i], 14);
            faultIs("starch 1 " + five[i].substring(1), 13);
            faultIs("starch 1 " + five[i], 14);
            faultIs("soften 1 p=0&" + five[i] + "!", 18);
            faultIs("soften 1 p=0|" + five[i] + "(", 18);
        }
    }

    private static void openTillItsBracket() {
        CHECK.says("a ( till its )");
        townIs("starch 1 (p=0)&(p=0)&(p=0)&(p=0)&(p=0)&(p=0)|(p=0)", 0);
        townIs("starch 1 (((((p=0)))))&(((((p=0)))))|(((((p=0)))))", 0);
        townIs("starch 1 ((p=0)&(((p=0))))", 0);
        townIs("starch 1 ((p=0)&((((p=0)))))", 0);
        faultIs("starch 1 ((p=0)&(((((p=0))))))", 20);
        townIs("starch 1 ((p=0)|((((p=0)))))", 0);
        faultIs("starch 1 ((p=0)|(((((p=0))))))", 20);
        faultIs("starch 1 (p=0", 13);
        faultIs("starch 1 (p=0;", 13);
        faultIs("starch 1 p=0)", 12);
        faultIs("starch 1 (p=0))", 14);
        faultIs("starch 1 ((p=0)", 15);
        faultIs("starch 1 ()", 10);
        faultIs("starch 1 )", 9);
    }

    private static void openTillItsFactor() {
        CHECK.says("a ! till its F ends");
        townIs("starch 1 !p=0&!p=0&!p=0&!p=0&!p=0&!p=0|!p=0", 0);
        townIs("starch 1 !!!!!p=0&!!!!!p=0|!!!!!p=0", 0);
        townIs("starch 1 !p=0&(((((p=0)))))", 0);
        townIs("starch 1 (!p=0&((((p=0)))))", 0);
        faultIs("starch 1 (!p=0&(((((p=0))))))", 19);
        townIs("starch 1 (!p=0|!!!!p=0)", 0);
        faultIs("starch 1 (!p=0|!!!!!p=0)", 19);
        townIs("starch 1 !(p=0&!!!p=0)", 0);
        faultIs("starch 1 !(p=0&!!!!p=0)", 18);
        townIs("starch 1 !((((p=0))))&!((((p=0))))", 0);
        faultIs("starch 1 !", 10);
        faultIs("starch 1 !&p=0", 10);
        faultIs("starch 1 p=0!", 12);
    }

    private static void openOnesInEachClause() {
        CHECK.says("At most 5 of ! and ( are open, by the CLAUSE");
        townIs("starch 1 !!!!!p=0;starch 1 !!!!!p=0;soften 1 (((((p=0)))))", 0);
        due("five !", rise("starch 9 !!!!!p=0"), 3);
        due("four !", rise("starch 9 !!!!p=0"), 12);
        due("five ! of another", rise("starch 9 !!!!!p=1"), 12);
        due("five (", rise("starch 9 (((((p=0)))))"), 12);
        due("! and ( by turns", rise("starch 9 !(!(!p=0))"), 3);
    }

    // ---- faults

    private static void endsTooEarly() {
        CHECK.says("FAULT: (the size, if it ends too early)");
        String text = "burst 12;soften 34 !(p<5&k=10)|w>9";
        for (int size = 0; size <= text.length(); size++) {
            boolean isWhole = size == 7 || size == 8 || size == 30 || size == 34;
            townIs(text.substring(0, size), isWhole ? 0 : -10 - size);
        }
    }

    private static void firstByte() {
        CHECK.says("FAULT: the place of the first byte with which no TOWN can go on");
        String text = "burst 12;soften 34 !(p<56&k=10)|w>78;starch 9 (c=10)&!h=11|v=12;burst 13";
        townIs(text, 0);
        char[] never = {0, 31, 34, 39, 47, 58, 64, 91, 96, 123, 127};
        for (int i = 0; i < text.length(); i++) {
            for (char sign : never) {
                faultIs(text.substring(0, i) + sign + text.substring(i), i);
            }
            faultIs(text.substring(0, i) + "~" + text.substring(i + 1), i);
            faultIs(text.substring(0, i) + "~~", i);
        }
        faultIs(text + "~", text.length());
    }

    private static void signsOfTests() {
        CHECK.says("a TEST: p or k or v or c or h or w, one of < = >");
        for (char sign = 0; sign <= 127; sign++) {
            boolean isWhat = "pkvchw".indexOf(sign) >= 0;
            boolean opens = sign == '!' || sign == '(';
            townIs("starch 1 " + sign + "=1", isWhat ? 0 : opens ? -20 : -19);
            boolean isSign = sign >= '<' && sign <= '>';
            townIs("starch 1 p" + sign + "1", isSign ? 0 : -20);
        }
        faultIs("starch 1 pp=1", 10);
        faultIs("starch 1 p<=1", 11);
        faultIs("starch 1 p", 10);
        faultIs("starch 1 p=", 11);
        faultIs("starch 1 1=p", 9);
    }

    private static void joints() {
        CHECK.says("E: T, or T|E. T: F, or F&T.");
        faultIs("starch 1 &p=0", 9);
        faultIs("starch 1 |p=0", 9);
        faultIs("starch 1 p=0&", 13);
        faultIs("starch 1 p=0|", 13);
        faultIs("starch 1 p=0&&p=0", 13);
        faultIs("starch 1 p=0||p=0", 13);
        faultIs("starch 1 p=0&|p=0", 13);
        faultIs("starch 1 p=0p=0", 12);
        faultIs("starch 1 (p=0)p=0", 14);
        faultIs("starch 1 (p=0)(p=0)", 14);
        faultIs("starch 1 (p=0|)", 14);
        faultIs("starch 1 (p=0&)", 14);
        due("& is nearer than |", rise("starch 9 p=0|p=0&p=1"), 12);
        due("& is nearer than |, from the left", rise("starch 9 p=1&p=0|p=0"), 12);
        due("brackets are nearer", rise("starch 9 (p=0|p=0)&p=1"), 3);
        due("! is nearer than &", rise("starch 9 !p=1&p=1"), 3);
        due("! is nearer than |", rise("starch 9 !p=0|p=0"), 12);
    }

    /** What E is said to be, told by another hand, for the truths a, b, c. */
    private static void truthIs(String e, int bits, boolean want) {
        String[] letters = {"a", "b", "c"};
        String text = e;
        for (int i = 0; i < letters.length; i++) {
            text = text.replace(letters[i], (bits >> i & 1) == 1 ? "p=0" : "p=1");
        }
        CHECK.isTrue(e + " as " + text, rise("starch 9 " + text) == (want ? 12 : 3));
    }

    private static void truths() {
        CHECK.says("E: T, or T|E. T: F, or F&T. F: !F, (E), or a TEST");
        for (int bits = 0; bits < 8; bits++) {
            boolean a = (bits & 1) != 0;
            boolean b = (bits & 2) != 0;
            boolean c = (bits & 4) != 0;
            truthIs("a", bits, a);
            truthIs("!a", bits, !a);
            truthIs("!!a", bits, a);
            truthIs("a|b", bits, a || b);
            truthIs("a&b", bits, a && b);
            truthIs("a|b|c", bits, a || b || c);
            truthIs("a&b&c", bits, a && b && c);
            truthIs("a|b&c", bits, a || b && c);
            truthIs("a&b|c", bits, a && b || c);
            truthIs("(a|b)&c", bits, (a || b) && c);
            truthIs("a&(b|c)", bits, a && (b || c));
            truthIs("a|(b|c)", bits, a || b || c);
            truthIs("a&(b&c)", bits, a && b && c);
            truthIs("!a&b|!c", bits, !a && b || !c);
            truthIs("!(a|b)|c", bits, !(a || b) || c);
            truthIs("a|!(b&!c)", bits, a || !(b && !c));
            truthIs("a&((b|c)&(!b|!c))", bits, a && b != c);
            truthIs("!(!(a&b)&!(b&c)&!(a&c))", bits, a && b || b && c || a && c);
            truthIs("a&b|b&c|a&c", bits, a && b || b && c || a && c);
            truthIs("(a|b)&(b|c)&(a|c)", bits, a && b || b && c || a && c);
        }
    }

    // ---- towns

    private static void fiveTowns() {
        CHECK.says("TOWNS are numbered from 0 on, 5 at most; FULL (ahead of all; THE TAPE stays)");
        StarchedCollars x = new StarchedCollars();
        for (int i = 0; i < 5; i++) {
            due("fault", Made.town(x, "?"), -10);
            due("towns", x.count(1), i);
            due("town", Made.town(x, "burst " + (10 + i)), i);
            due("towns then", x.count(1), i + 1);
        }
        due("full, of nothing", x.town(), FULL);
        Made.feed(x, "burst 77");
        due("full, of a town", x.town(), FULL);
        due("full again", x.town(), FULL);
        due("the tape stays", x.count(5), 8);
        due("and goes on", x.feed('?'), 9);
        due("full, ahead of a fault", x.town(), FULL);
        due("the tape stays then, too", x.count(5), 9);
        due("towns", x.count(1), 5);
        due("burst of the fifth", x.told(1), 14);
    }

    private static void stayedTape() {
        CHECK.says("FULL (ahead of all; THE TAPE stays)");
        StarchedCollars x = new StarchedCollars();
        for (int i = 0; i < 4; i++) {
            due("town", Made.town(x, "burst 1"), i);
        }
        x.image();
        due("the fifth", Made.town(x, "burst 2"), 4);
        Made.feed(x, "burst 33");
        due("full", x.town(), FULL);
        due("four again", x.undo(), 0);
        due("towns", x.count(1), 4);
        due("the fifth, anew", Made.town(x, "burst 44"), 4);
        due("its burst", x.told(1), 44);
    }

    private static void newestHolds() {
        CHECK.says("the newest one holds; -10 less the FAULT (the one that held holds)");
        StarchedCollars x = Made.one("", 0, 0);
        due("fault without a town", Made.town(x, "starch 5 p=0;starch"), -29);
        due("rise without a town", x.of(0, 7), 3);
        due("burst without a town", x.told(1), 90);
        Made.town(x, "starch 5 p=0;burst 50");
        due("rise", x.of(0, 7), 8);
        due("fault", Made.town(x, "burst 20;starch 7 p=0;x"), -10 - 22);
        due("rise behind a fault", x.of(0, 7), 8);
        due("burst behind a fault", x.told(1), 50);
        due("fault by the size", Made.town(x, "burst 20;starch 7 p=0;"), -10 - 22);
        due("fault of nothing", x.town(), -10);
        due("rise behind that", x.of(0, 7), 8);
        due("burst behind that", x.told(1), 50);
        Made.town(x, "soften 1 p=0");
        due("rise by the newest alone", x.of(0, 7), 2);
        due("burst of the newest alone", x.told(1), 90);
        Made.town(x, "burst 7");
        due("rise by none", x.of(0, 7), 3);
        due("burst", x.told(1), 7);
    }

    private static void longTowns() {
        CHECK.says("the newest one holds, behind towns and faults as long as THE TAPE");
        StarchedCollars x = Made.one("", 0, 0);
        String most = "starch 7 p=1" + Made.times(20, "&p=1");
        due("a town", Made.town(x, most + "&p=0|p=0"), 0);
        due("its rise", x.of(0, 7), 10);
        due("a fault", Made.town(x, most + "&p=0|p="), -10 - 99);
        due("rise behind it", x.of(0, 7), 10);
        due("a town again", Made.town(x, "soften 1 p=0;starch 20 p=1" + Made.times(16, "|p=1") + "&p=0"), 1);
        due("its rise", x.of(0, 7), 2);
        due("another one", Made.town(x, "starch 30 p=1" + Made.times(20, "|p=1") + "|p=0"), 2);
        due("its rise", x.of(0, 7), 33);
    }

    private static void withoutTown() {
        CHECK.says("without one there are no CLAUSES. BURST (90 without)");
        String[] towns = {"", "starch 0 p=0"};
        for (String town : towns) {
            StarchedCollars x = Made.one(town, 0, 0);
            due("burst", x.told(1), 90);
            due("rise", x.of(0, 7), 3);
            x.set(0, 2, 86);
            due("89", x.on(1, 10), 89);
            due("89 is not gone", x.on(1, 0), 0);
            x.set(0, 2, 87);
            due("90 is gone", x.on(1, 0), 1);
        }
    }

    private static void lastBurst() {
        CHECK.says("BURST: the last n of burst");
        due("of two", Made.inTown("burst 10;burst 20").told(1), 20);
        due("of two, the lower", Made.inTown("burst 20;burst 0").told(1), 0);
        due("of three", Made.inTown("burst 20;starch 1 p=0;burst 99;burst 5;soften 1 p=0").told(1), 5);
    }

    private static void burstBounds() {
        CHECK.says("if it is BURST or more then, its STUD is GONE");
        for (int burst = 1; burst <= 99; burst++) {
            StarchedCollars x = Made.one("burst " + burst + ";soften 2 p=0", 0, 0);
            x.set(0, 2, burst - 1);
            due("burst " + burst, x.on(1, 0), 1);
            if (burst >= 2) {
                x.set(0, 2, burst - 2);
                due("one below burst " + burst, x.on(1, 10), burst - 1);
                due("one below burst " + burst + " is not gone", x.on(1, 0), 0);
            }
        }
        StarchedCollars low = Made.one("burst 0;soften 99 p=0", 0, 0);
        due("burst 0, at 0", low.on(1, 0), 1);
        StarchedCollars none = Made.one("burst 1;soften 3 p=0", 0, 0);
        due("burst 1, at 0", none.on(60, 0), 0);
        StarchedCollars past = Made.one("burst 50;starch 90 p=0", 0, 0);
        due("far above burst", past.on(1, 0), 1);
    }

    // ---- what tests ask

    /** A man by p, k, v, c, HEIGHT and WEEK: whether E holds for him. */
    private static boolean holds(String e, int[] man) {
        StarchedCollars x = new StarchedCollars();
        for (int i = 0; i < man[0]; i++) {
            x.man(0, 0, 0, 0);
        }
        x.man(man[1], man[2], 0, (1 << man[3]) - 1);
        x.away(man[0], true);
        x.pass(man[5]);
        x.set(man[0], 2, man[4]);
        int without = x.of(man[0], 7);
        Made.town(x, "starch 90 " + e);
        return x.of(man[0], 7) != without;
    }

    private static void eachTest() {
        CHECK.says("p its number, k its KIND, v its v, c how many ARTICLES, h HEIGHT by 10 (cut), w WEEK modulo 10");
        String what = "pkvchw";
        int[] most = {5, 6, 9, 8, 9, 9};
        for (int i = 0; i < what.length(); i++) {
            for (int is = 0; is <= most[i]; is++) {
                int[] man = {0, 0, 0, 0, 0, 0};
                man[i] = i == 4 ? is * 10 : is;
                String word = what.substring(i, i + 1);
                for (int n = 0; n <= 11; n++) {
                    CHECK.isTrue(word + "<" + n + " of " + is, holds(word + "<" + n, man) == is < n);
                    CHECK.isTrue(word + "=" + n + " of " + is, holds(word + "=" + n, man) == (is == n));
                    CHECK.isTrue(word + ">" + n + " of " + is, holds(word + ">" + n, man) == is > n);
                }
                CHECK.isTrue(word + "<99", holds(word + "<99", man));
                CHECK.isTrue(word + ">99", !holds(word + ">99", man));
            }
        }
    }

    private static void cutAndModulo() {
        CHECK.says("h HEIGHT by 10 (cut), w WEEK modulo 10");
        for (int height = 0; height <= 99; height++) {
            String e = "h=" + (height < 10 ? "0" : ("" + height).substring(0, 1));
            CHECK.isTrue(e + " at " + height, holds(e, new int[] {0, 0, 0, 0, height, 0}));
        }
        for (int week = 0; week <= 60; week++) {
            String e = "w=" + ("" + week).substring(week < 10 ? 0 : 1);
            CHECK.isTrue(e + " in " + week, holds(e, new int[] {0, 0, 0, 0, 0, week}));
        }
        StarchedCollars x = Made.one("starch 5 w=9;starch 8 w=0", 0, 0);
        x.stud(0, true);
        Made.toLastWeek(x);
        due("week 9999", x.of(0, 7), 8);
        x.stud(0, false);
        due("week 10000, too", x.on(2, 10) - x.on(1, 10), 11);
    }

    private static void sums() {
        CHECK.says("SUM of one: 3, and the n of all starch whose E holds, less those of all soften (may be below 0)");
        String all = " p=0;";
        due("none holds", rise("starch 9 p=1;soften 9 p>0"), 3);
        due("0 of each", rise("starch 0 p=0;soften 0 p=0"), 3);
        due("to 0", rise("soften 3 p=0"), 0);
        due("below 0", rise("soften 4 p=0"), -1);
        due("the most", rise(Made.times(6, "starch 99" + all) + "starch 99 p=0"), 3 + 7 * 99);
        due("the least", rise(Made.times(6, "soften 99" + all) + "soften 99 p=0"), 3 - 7 * 99);
        due("first above, then below", rise("starch 99 p=0;soften 99 p=0"), 3);
    }

    public static void main(String[] args) {
        signs();
        hundredSigns();
        townOfHundredSigns();
        emptyTapes();
        readToItsSize();
        tenClauses();
        noEmptyClause();
        oneBlank();
        words();
        everyNumber();
        fiveOpen();
        openTillItsBracket();
        openTillItsFactor();
        openOnesInEachClause();
        endsTooEarly();
        firstByte();
        signsOfTests();
        joints();
        truths();
        fiveTowns();
        stayedTape();
        newestHolds();
        longTowns();
        withoutTown();
        lastBurst();
        burstBounds();
        eachTest();
        cutAndModulo();
        sums();
        CHECK.end();
    }
}
