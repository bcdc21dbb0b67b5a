/** The bounds of MEN, what they are of, a WEEK, RISE, REACH and APART: promises 1 and 4 to 12. */
public final class MenBoundsTest {
    private static final int NONE = -1, BAD = -2, STATE = -3, FULL = -4, NEVER = -5, NONE_OF = -999999;
    private static final long NO = Long.MIN_VALUE;
    private static final int MIN = Integer.MIN_VALUE, MAX = Integer.MAX_VALUE;
    private static final Check CHECK = new Check("MenBoundsTest");

    private MenBoundsTest() {
    }

    private static void due(String call, long got, long want) {
        CHECK.due(call, got, want);
    }

    // ---- a new object

    private static void newObject() {
        CHECK.says("A new object: No MEN, no TOWN");
        StarchedCollars x = new StarchedCollars();
        for (int what = 0; what <= 6; what++) {
            due("count(" + what + ")", x.count(what), 0);
        }
        due("WEEK", x.told(0), 0);
        due("BURST", x.told(1), 90);
        due("GONE", x.told(2), 0);
        due("AWAY", x.told(3), 0);
        due("shared", x.told(4), 255);
        due("walk(-1)", x.walk(-1), 0);
        due("table", x.table(8), 0);
        due("wash", x.wash(6), 0);
        due("mean above", x.mean(0), NO);
        due("mean below", x.mean(1), NO);
        due("done(0)", x.done(0), 0);
        due("done(1)", x.done(1), 0);
        due("looked", x.looked(), NEVER);
        due("on(60, 0)", x.on(60, 0), 0);
        due("trace", x.trace(0), NONE);
        due("undo", x.undo(), STATE);
        due("town", x.town(), -10);
        due("pass(60)", x.pass(60), 60);
        due("the first man", x.man(0, 0, 0, 0), 0);
    }

    private static void nobody() {
        CHECK.says("NONE there is no such MAN, of no MEN at all");
        StarchedCollars x = new StarchedCollars();
        for (int what = 0; what <= 9; what++) {
            due("of", x.of(0, what), NONE_OF);
        }
        due("row", x.row(0, 0, 0), NONE);
        due("set", x.set(0, 0, 0), NONE);
        due("stud", x.stud(0, true), NONE);
        due("away", x.away(0, true), NONE);
        due("apart", x.apart(0, 1), NONE);
        due("on 10", x.on(0, 10), NONE);
        due("on 20", x.on(0, 20), NONE);
        due("when", x.when(0), NONE);
        due("walk", x.walk(0), NONE);
        due("see", x.see(0, 0, 0), NONE);
        due("highs", x.highs(0, 0), NONE);
        due("firm", x.firm(0, 0), NONE);
        due("odds", x.odds(0, 0, 0), NO);
        due("plan 1", x.plan(1, 0), NONE);
        due("plan 0", x.plan(0, 0), 1);
        due("book", x.book(0, 0), NONE);
        due("act", x.act(0, 0, 7), 0);
        due("as", x.as(0, 0), NONE);
    }

    private static void eachItsOwn() {
        CHECK.says("A new object, beside another");
        StarchedCollars x = Made.one("burst 20;starch 4 p=0", 6, 5);
        x.row(0, 0, 9);
        x.pass(1);
        x.see(0, 0, 0);
        x.act(0, 0, 0);
        x.image();
        StarchedCollars y = new StarchedCollars();
        for (int what = 0; what <= 6; what++) {
            due("count", y.count(what), 0);
        }
        due("undo", y.undo(), STATE);
        y.man(6, 0, 0, 0);
        due("rise", y.of(0, 7), -1);
        due("height of the first", x.of(0, 4), 3 + 4 + 9 - 4);
    }

    // ---- man

    private static void kindsAndPlaces() {
        CHECK.says("man, NONE: kind, place");
        for (int kind = 0; kind <= 6; kind++) {
            due("kind " + kind, Made.one("", kind, 0).of(0, 0), kind);
        }
        for (int place = 0; place <= 9; place++) {
            StarchedCollars x = new StarchedCollars();
            due("place " + place, x.man(0, 0, place, 0), 0);
            due("place", x.of(0, 2), place);
        }
        StarchedCollars x = new StarchedCollars();
        int[] badKinds = {-1, 7, 8, MIN, MAX};
        for (int kind : badKinds) {
            due("kind " + kind, x.man(kind, 0, 0, 0), NONE);
        }
        int[] badPlaces = {-1, 10, 11, MIN, MAX};
        for (int place : badPlaces) {
            due("place " + place, x.man(0, 0, place, 0), NONE);
        }
        due("MEN", x.count(0), 0);
    }

    private static void numbersAndCreeds() {
        CHECK.says("man, BAD: v, creed");
        for (int v = 0; v <= 9; v++) {
            due("v " + v, Made.one("", 0, v).of(0, 1), v);
        }
        for (int creed = 0; creed <= 255; creed++) {
            due("creed " + creed, Made.creeds(creed).of(0, 3), creed);
        }
        StarchedCollars x = new StarchedCollars();
        int[] badOnes = {-1, 10, 11, MIN, MAX};
        for (int v : badOnes) {
            due("v " + v, x.man(0, v, 0, 0), BAD);
        }
        int[] badCreeds = {-1, 256, 257, 511, MIN, MAX};
        for (int creed : badCreeds) {
            due("creed " + creed, x.man(0, 0, 0, creed), BAD);
        }
        due("MEN", x.count(0), 0);
    }

    private static void sixMen() {
        CHECK.says("MEN are numbered from 0 on, 6 at most; FULL: 6");
        StarchedCollars x = new StarchedCollars();
        for (int i = 0; i < 6; i++) {
            due("man " + i, x.man(0, i, 0, 0), i);
            due("MEN", x.count(0), i + 1);
            due("the next one", x.of(i + 1, 0), NONE_OF);
        }
        due("a seventh", x.man(0, 9, 0, 0), FULL);
        due("a seventh, again", x.man(6, 9, 9, 255), FULL);
        due("MEN", x.count(0), 6);
        for (int i = 0; i < 6; i++) {
            due("v of " + i, x.of(i, 1), i);
        }
    }

    private static void firstToldOfMan() {
        CHECK.says("man: of several the first one told, NONE, BAD, FULL");
        StarchedCollars x = new StarchedCollars();
        for (int i = 0; i <= 6; i++) {
            due("kind ahead of v", x.man(7, 10, 0, 0), NONE);
            due("kind ahead of creed", x.man(-1, 0, 0, 256), NONE);
            due("place ahead of v", x.man(0, -1, 10, 0), NONE);
            due("place ahead of creed", x.man(0, 0, -1, -1), NONE);
            due("place alone", x.man(0, 0, 10, 0), NONE);
            due("v alone", x.man(0, 10, 0, 0), BAD);
            due("creed alone", x.man(0, 0, 0, 256), BAD);
            due("none of them", x.man(0, 0, 0, 0), i == 6 ? FULL : i);
        }
        due("MEN", x.count(0), 6);
    }

    private static void atFirst() {
        CHECK.says("HEIGHT 0 at first; its STUD there at first; AWAY not at first; ROW 0 at first; WEEK: 0 at first");
        for (int kind = 0; kind <= 6; kind++) {
            StarchedCollars x = new StarchedCollars();
            x.man(kind, 9, 9, 255);
            int[] is = {kind, 9, 9, 255, 0, 0, 0};
            for (int what = 0; what < is.length; what++) {
                due("of(0, " + what + ")", x.of(0, what), is[what]);
            }
            for (int k = 0; k < 4; k++) {
                due("row", x.row(0, k, 0), kind == 6 ? 0 : STATE);
            }
            due("week", x.told(0), 0);
        }
    }

    private static void atFirstAgain() {
        CHECK.says("at first, of one whose number another one had ahead of undo");
        StarchedCollars x = new StarchedCollars();
        x.image();
        x.man(6, 9, 9, 255);
        for (int k = 0; k < 4; k++) {
            x.row(0, k, 9);
        }
        x.set(0, 2, 99);
        x.stud(0, true);
        x.away(0, true);
        due("nobody", x.undo(), 0);
        due("man", x.man(6, 1, 2, 3), 0);
        int[] is = {6, 1, 2, 3, 0, 0, 0};
        for (int what = 0; what < is.length; what++) {
            due("of(0, " + what + ")", x.of(0, what), is[what]);
        }
        for (int k = 0; k < 4; k++) {
            due("row", x.row(0, k, 0), 0);
        }
    }

    private static void samePlace() {
        CHECK.says("a PLACE (two may be in one)");
        StarchedCollars x = new StarchedCollars();
        for (int i = 0; i < 6; i++) {
            due("man", x.man(0, 0, 9, 0), i);
        }
        x.set(0, 2, 99);
        due("it sees all that are there", x.of(0, 8), 62);
        x.set(1, 0, 8);
        due("and none else", x.of(0, 8), 60);
        due("was", x.set(1, 0, 9), 8);
        due("all again", x.of(0, 8), 62);
    }

    // ---- of, row, set, stud, away

    private static void whatOfMen() {
        CHECK.says("of, -999999: NONE");
        StarchedCollars x = Made.creeds(0, 0);
        int[] men = {-1, 2, 5, 6, MIN, MAX};
        for (int man : men) {
            for (int what = 0; what <= 9; what++) {
                due("of(" + man + ", " + what + ")", x.of(man, what), NONE_OF);
            }
        }
        int[] whats = {-1, 10, 11, MIN, MAX};
        for (int what : whats) {
            due("of(0, " + what + ")", x.of(0, what), NONE_OF);
            due("of(1, " + what + ")", x.of(1, what), NONE_OF);
            due("of(2, " + what + ")", x.of(2, what), NONE_OF);
        }
        due("what 0", x.of(1, 0), 0);
        due("what 9", x.of(1, 9), 0);
    }

    private static void rowBounds() {
        CHECK.says("row, n (0 .. 9) for WEEKS modulo 4 being k: what it was");
        StarchedCollars x = Made.one("", 6, 0);
        for (int k = 0; k < 4; k++) {
            due("at first", x.row(0, k, 9), 0);
            due("9", x.row(0, k, 0), 9);
            due("0", x.row(0, k, 5), 0);
            due("n -1", x.row(0, k, -1), BAD);
            due("n 10", x.row(0, k, 10), BAD);
            due("n MIN", x.row(0, k, MIN), BAD);
            due("n MAX", x.row(0, k, MAX), BAD);
            due("5", x.row(0, k, k), 5);
        }
        for (int k = 0; k < 4; k++) {
            due("each its own", x.row(0, k, k), k);
        }
        int[] ks = {-1, 4, 5, MIN, MAX};
        for (int k : ks) {
            due("k " + k, x.row(0, k, 1), NONE);
        }
        int[] men = {-1, 1, 6, MIN, MAX};
        for (int man : men) {
            due("man " + man, x.row(man, 0, 1), NONE);
        }
        for (int k = 0; k < 4; k++) {
            due("as it was", x.row(0, k, k), k);
        }
    }

    private static void firstToldOfRow() {
        CHECK.says("row, NONE: man, k; BAD; STATE: another KIND");
        for (int kind = 0; kind <= 5; kind++) {
            StarchedCollars x = Made.one("", kind, 0);
            due("kind " + kind, x.row(0, 0, 0), STATE);
            due("kind " + kind + ", the last", x.row(0, 3, 9), STATE);
            due("n ahead of kind", x.row(0, 0, 10), BAD);
            due("n ahead of kind, below", x.row(0, 3, -1), BAD);
            due("k ahead of kind", x.row(0, 4, 0), NONE);
            due("k ahead of n", x.row(0, -1, 10), NONE);
            due("man ahead of n", x.row(1, 0, 10), NONE);
            due("man ahead of all", x.row(-1, 4, -1), NONE);
        }
        StarchedCollars x = Made.one("", 6, 0);
        due("k ahead of n, of one TOLD", x.row(0, 4, 10), NONE);
        due("man ahead of n, of one TOLD", x.row(1, 0, 10), NONE);
    }

    private static void rowOfWeek() {
        CHECK.says("its ROW at WEEK modulo 4, less 4");
        StarchedCollars x = Made.one("", 6, 0);
        due("a row of 0", x.of(0, 7), -1);
        for (int k = 0; k < 4; k++) {
            x.row(0, k, 9 - 2 * k);
        }
        x.away(0, true);
        for (int week = 0; week <= 9; week++) {
            due("week " + week, x.of(0, 7), 3 + 9 - 2 * (week % 4) - 4);
            x.pass(1);
        }
        StarchedCollars y = Made.one("starch 9 w=0", 6, 0);
        y.row(0, 3, 7);
        y.row(0, 0, 9);
        y.away(0, true);
        Made.toLastWeek(y);
        due("week 9999", y.of(0, 7), 3 + 7 - 4);
        y.away(0, false);
        due("week 9999, on", y.on(1, 10), 6);
        due("week 10000, on", y.on(2, 10), 6 + 3 + 9 + 9 - 4);
    }

    private static void setBounds() {
        CHECK.says("set: Of one 0 PLACE (0 .. 9), 1 CREED (0 .. 255), 2 HEIGHT (0 .. 99) becomes n: what it was");
        StarchedCollars x = new StarchedCollars();
        x.man(0, 1, 5, 6);
        int[] most = {9, 255, 99};
        int[] was = {5, 6, 0};
        for (int what = 0; what <= 2; what++) {
            due("most", x.set(0, what, most[what]), was[what]);
            due("was", x.of(0, what + 2), most[what]);
            int[] bad = {-1, most[what] + 1, most[what] + 2, MIN, MAX};
            for (int n : bad) {
                due("set(0, " + what + ", " + n + ")", x.set(0, what, n), BAD);
            }
            due("stays", x.of(0, what + 2), most[what]);
            due("least", x.set(0, what, 0), most[what]);
            due("one", x.set(0, what, 1), 0);
            due("is", x.of(0, what + 2), 1);
        }
        due("v stays", x.of(0, 1), 1);
    }

    private static void firstToldOfSet() {
        CHECK.says("set, NONE: man, what; BAD");
        StarchedCollars x = Made.creeds(7);
        int[] men = {-1, 1, 6, MIN, MAX};
        for (int man : men) {
            due("set(" + man + ", 0, 0)", x.set(man, 0, 0), NONE);
            due("set(" + man + ", 1, 256)", x.set(man, 1, 256), NONE);
        }
        int[] whats = {-1, 3, 4, MIN, MAX};
        for (int what : whats) {
            due("set(0, " + what + ", 0)", x.set(0, what, 0), NONE);
            due("set(0, " + what + ", -1)", x.set(0, what, -1), NONE);
            due("set(0, " + what + ", 256)", x.set(0, what, 256), NONE);
        }
        due("nothing is changed", x.of(0, 2) + x.of(0, 3) + x.of(0, 4), 7);
    }

    private static void heightSetAtBurst() {
        CHECK.says("A WEEK goes: if it is BURST or more then (and not when it is set)");
        StarchedCollars x = Made.one("burst 10;soften 9 p=0", 0, 0);
        x.set(0, 2, 99);
        due("not gone", x.told(2), 0);
        due("height", x.of(0, 4), 99);
        due("when", x.when(0), 1);
        x.set(0, 2, 15);
        due("below burst by then", x.when(0), NEVER);
    }

    private static void studs() {
        CHECK.says("stud: The STUD of one is GONE, or there (HEIGHT stays): whether it was GONE. NONE");
        StarchedCollars x = Made.creeds(255, 255);
        x.set(1, 2, 99);
        due("gone", x.stud(1, true), 0);
        due("gone, again", x.stud(1, true), 1);
        due("height at 99", x.of(1, 4), 99);
        due("creed", x.of(1, 3), 255);
        due("there", x.stud(1, false), 1);
        due("there, again", x.stud(1, false), 0);
        due("height at 99, there", x.of(1, 4), 99);
        int[] men = {-1, 2, 6, MIN, MAX};
        for (int man : men) {
            due("stud(" + man + ", true)", x.stud(man, true), NONE);
            due("stud(" + man + ", false)", x.stud(man, false), NONE);
        }
        due("whose", x.told(2), 0);
    }

    private static void aways() {
        CHECK.says("away: One is AWAY, or not: whether it was. NONE");
        StarchedCollars x = Made.creeds(255, 255);
        due("away", x.away(1, true), 0);
        due("away, again", x.away(1, true), 1);
        due("which", x.told(3), 2);
        due("of(1, 6)", x.of(1, 6), 1);
        due("of(0, 6)", x.of(0, 6), 0);
        due("back", x.away(1, false), 1);
        due("back, again", x.away(1, false), 0);
        int[] men = {-1, 2, 6, MIN, MAX};
        for (int man : men) {
            due("away(" + man + ", true)", x.away(man, true), NONE);
            due("away(" + man + ", false)", x.away(man, false), NONE);
        }
        due("which then", x.told(3), 0);
    }

    // ---- apart, told

    private static void apartBounds() {
        CHECK.says("APART are two by how many ARTICLES just one of them holds. NONE; BAD: one is both");
        StarchedCollars x = Made.creeds(0, 0);
        int creed = 0;
        for (int apart = 0; apart <= 8; apart++) {
            x.set(1, 1, creed);
            due("apart", x.apart(0, 1), apart);
            due("the other way", x.apart(1, 0), apart);
            x.set(0, 1, 255);
            due("from all", x.apart(0, 1), 8 - apart);
            x.set(0, 1, 0);
            creed = creed * 2 + 1;
        }
        due("both 0", x.apart(0, 0), BAD);
        due("both 1", x.apart(1, 1), BAD);
        int[] men = {-1, 2, 6, MIN, MAX};
        for (int man : men) {
            due("apart(" + man + ", 0)", x.apart(man, 0), NONE);
            due("apart(0, " + man + ")", x.apart(0, man), NONE);
            due("NONE ahead of BAD", x.apart(man, man), NONE);
        }
        x.away(0, true);
        x.stud(1, true);
        due("AWAY and GONE", x.apart(0, 1), 8);
    }

    private static void toldBounds() {
        CHECK.says("told, NONE");
        StarchedCollars x = Made.creeds(255);
        int[] whats = {-1, 5, 6, MIN, MAX};
        for (int what : whats) {
            due("told(" + what + ")", x.told(what), NONE);
        }
        due("told(0)", x.told(0), 0);
        due("told(4)", x.told(4), 255);
    }

    private static void toldBits() {
        CHECK.says("told: 2 whose STUDS are GONE (bits), 3 which are AWAY (bits)");
        StarchedCollars x = Made.creeds(0, 0, 0, 0, 0, 0);
        for (int man = 0; man < 6; man++) {
            x.stud(man, true);
            due("gone", x.told(2), (2 << man) - 1);
            due("none away", x.told(3), 0);
        }
        for (int man = 5; man >= 0; man--) {
            x.away(man, true);
            due("away", x.told(3), 64 - (1 << man));
            due("all gone", x.told(2), 63);
        }
    }

    private static void sharedArticles() {
        CHECK.says("told: 4 which ARTICLES all not AWAY hold (bits; none: 255)");
        StarchedCollars x = new StarchedCollars();
        due("no MEN", x.told(4), 255);
        x.man(0, 0, 0, 0);
        due("one who holds none", x.told(4), 0);
        x.away(0, true);
        due("all are away", x.told(4), 255);
        x.man(0, 0, 0, 129);
        due("one not away", x.told(4), 129);
        x.man(0, 0, 0, 254);
        due("two not away", x.told(4), 128);
        x.stud(1, true);
        due("GONE ones, too", x.told(4), 128);
        x.away(1, true);
        due("the other", x.told(4), 254);
        x.away(2, true);
        due("all are away, again", x.told(4), 255);
    }

    // ---- pass

    private static void passBounds() {
        CHECK.says("pass: n WEEKS (0 .. 60) go: WEEK. BAD");
        StarchedCollars x = Made.one("burst 99;starch 7 w=9;soften 3 w<9", 0, 0);
        due("0", x.pass(0), 0);
        due("height", x.of(0, 4), 0);
        int[] bad = {-1, 61, 62, -60, MIN, MAX};
        for (int n : bad) {
            due("pass(" + n + ")", x.pass(n), BAD);
        }
        due("week", x.told(0), 0);
        due("60", x.pass(60), 60);
        due("height of all sixty", x.of(0, 4), 60);
        due("1", x.pass(1), 61);
    }

    private static void lastWeek() {
        CHECK.says("pass, STATE: it would be above 9999");
        StarchedCollars x = Made.one("", 0, 0);
        x.stud(0, true);
        for (int i = 1; i <= 166; i++) {
            due("sixty", x.pass(60), 60 * i);
        }
        due("40", x.pass(40), STATE);
        due("60", x.pass(60), STATE);
        due("61", x.pass(61), BAD);
        due("-1", x.pass(-1), BAD);
        due("MAX", x.pass(MAX), BAD);
        due("stays", x.told(0), 9960);
        due("38", x.pass(38), 9998);
        due("2", x.pass(2), STATE);
        due("1", x.pass(1), 9999);
        x.stud(0, false);
        due("1 more", x.pass(1), STATE);
        due("0 more", x.pass(0), 9999);
        due("no week went", x.of(0, 4), 0);
        due("week", x.told(0), 9999);
    }

    private static void weekWithoutMen() {
        CHECK.says("WEEK is 1 more");
        StarchedCollars x = new StarchedCollars();
        due("without MEN", x.pass(1), 1);
        x.man(0, 0, 0, 0);
        x.away(0, true);
        due("all are away", x.pass(1), 2);
        x.stud(0, true);
        due("all are gone", x.pass(1), 3);
        due("told", x.told(0), 3);
    }

    // ---- a week

    private static void heightBounds() {
        CHECK.says("HEIGHT of each not AWAY whose STUD is there is RISE more (0 at least, 99 at most)");
        StarchedCollars x = Made.one("soften 8 p=0", 0, 0);
        int[] heights = {0, 4, 5, 6, 99};
        int[] then = {0, 0, 0, 1, 0};
        for (int i = 0; i < heights.length; i++) {
            x.set(0, 2, heights[i]);
            due("5 less than " + heights[i], x.on(1, 10), then[i]);
        }
        due("99 less 5 is BURST", x.on(1, 0), 1);
        StarchedCollars low = Made.one("soften 99 p=0;soften 99 p=0;soften 99 p=0", 0, 0);
        low.set(0, 2, 99);
        due("far below 0", low.on(1, 10), 0);
        due("far below 0 is not gone", low.on(60, 0), 0);
        StarchedCollars high = Made.one("burst 99;starch 99 p=0;starch 99 p=0", 0, 0);
        high.set(0, 2, 99);
        due("far above 99 is gone", high.on(1, 0), 1);
        due("and 0", high.on(1, 10), 0);
        StarchedCollars top = Made.one("burst 99", 0, 0);
        top.set(0, 2, 95);
        due("98", top.on(1, 10), 98);
        due("98 is there", top.on(1, 0), 0);
        top.set(0, 2, 96);
        due("99 is gone", top.on(1, 0), 1);
    }

    private static void lostArticle() {
        CHECK.says("its STUD is GONE, HEIGHT 0, and it does not hold the ARTICLE v modulo 8 any more");
        for (int v = 0; v <= 9; v++) {
            StarchedCollars x = new StarchedCollars();
            Made.town(x, "burst 0");
            x.man(0, v, 0, 255);
            x.set(0, 2, 50);
            x.pass(1);
            due("v " + v, x.of(0, 3), 255 - (1 << v % 8));
            due("height", x.of(0, 4), 0);
            due("gone", x.of(0, 5), 1);
            x.set(0, 1, 1 << v % 8);
            x.pass(60);
            due("it goes but once", x.of(0, 3), 1 << v % 8);
            x.stud(0, false);
            x.set(0, 1, 255 - (1 << v % 8));
            x.pass(1);
            due("one it did not hold", x.of(0, 3), 255 - (1 << v % 8));
        }
    }

    private static void notRisen() {
        CHECK.says("HEIGHT of each not AWAY whose STUD is there");
        StarchedCollars x = Made.creeds(255, 255, 255, 255);
        Made.town(x, "burst 50");
        for (int man = 0; man < 4; man++) {
            x.set(man, 2, 49);
        }
        x.away(1, true);
        x.stud(2, true);
        x.away(3, true);
        x.stud(3, true);
        x.pass(60);
        due("gone", x.told(2), 1 + 4 + 8);
        int[] heights = {0, 49, 49, 49};
        for (int man = 0; man < 4; man++) {
            due("height of " + man, x.of(man, 4), heights[man]);
            due("creed of " + man, x.of(man, 3), man == 0 ? 254 : 255);
        }
        x.away(1, false);
        due("back, it goes", x.when(1), 1);
    }

    private static void byHowAllIsAhead() {
        CHECK.says("A WEEK goes, by how all is ahead of it");
        StarchedCollars x = Made.one("starch 10 w=0;starch 20 w=1;starch 40 h=1", 0, 0);
        x.pass(1);
        due("by week 0 and height 0", x.of(0, 4), 13);
        x.pass(1);
        due("by week 1 and height 13", x.of(0, 4), 13 + 3 + 20 + 40);
        StarchedCollars y = Made.one("burst 10;starch 4 c=8", 3, 0);
        y.set(0, 1, 255);
        y.pass(1);
        due("by eight articles", y.of(0, 5), 1);
        y.stud(0, false);
        y.pass(1);
        due("by seven", y.of(0, 5), 1);
        y.set(0, 1, 63);
        y.stud(0, false);
        y.pass(1);
        due("by six", y.of(0, 4), 9);
    }

    // ---- rise

    private static int riseOf(int kind, int v, int creed, int height, String town) {
        StarchedCollars x = Made.one(town, kind, v);
        x.set(0, 1, creed);
        x.set(0, 2, height);
        return x.of(0, 7);
    }

    private static void cutHalves() {
        CHECK.says("UNITARIAN: the half (cut toward 0) of SUM. LAPSED: as UNITARIAN, less v");
        int[] softer = {0, 1, 2, 3, 4, 5, 6, 7, 8, 99};
        int[] halves = {1, 1, 0, 0, 0, -1, -1, -2, -2, -48};
        for (int i = 0; i < softer.length; i++) {
            String town = "soften " + softer[i] + " p=0";
            due("Unitarian, " + town, riseOf(2, 9, 255, 99, town), halves[i]);
            due("Lapsed, v 0, " + town, riseOf(5, 0, 255, 99, town), halves[i]);
            due("Lapsed, v 9, " + town, riseOf(5, 9, 255, 99, town), halves[i] - 9);
        }
        due("above", riseOf(2, 0, 0, 0, "starch 4 p=0"), 3);
        due("even", riseOf(2, 0, 0, 0, "starch 5 p=0"), 4);
    }

    private static void risesByV() {
        CHECK.says("MAN: SUM. DEACON: SUM, and v. ELDER: as DEACON");
        for (int v = 0; v <= 9; v++) {
            due("Man, v " + v, riseOf(0, v, 255, 99, "soften 9 p=0"), -6);
            due("Deacon, v " + v, riseOf(1, v, 255, 99, "soften 9 p=0"), -6 + v);
            due("Elder, v " + v, riseOf(4, v, 255, 0, "soften 9 p=0"), -6 + v);
            due("Unitarian, v " + v, riseOf(2, v, 255, 0, "soften 9 p=0"), -3);
            due("Independent, v " + v, riseOf(3, v, 0, 0, "soften 9 p=0"), -6);
            due("Lapsed, v " + v, riseOf(5, v, 0, 0, "soften 9 p=0"), -3 - v);
            due("Told, v " + v, riseOf(6, v, 0, 0, "soften 9 p=0"), -6 - 4);
        }
    }

    private static void elderBounds() {
        CHECK.says("ELDER: as DEACON; 0, if HEIGHT is 60 or more");
        for (int height = 0; height <= 99; height++) {
            due("at " + height, riseOf(4, 5, 0, height, ""), height >= 60 ? 0 : 8);
            due("at " + height + ", below 0", riseOf(4, 5, 0, height, "soften 50 p=0"), height >= 60 ? 0 : -42);
            due("a Deacon at " + height, riseOf(1, 5, 0, height, ""), 8);
        }
        StarchedCollars x = Made.one("", 4, 5);
        x.set(0, 2, 59);
        due("from 59", x.on(1, 10), 67);
        due("and no more", x.on(60, 10), 67);
    }

    private static void byArticles() {
        CHECK.says("INDEPENDENT: SUM, and how many ARTICLES it holds. TOLD: as INDEPENDENT");
        for (int n = 0; n <= 8; n++) {
            due("low ones, " + n, riseOf(3, 9, (1 << n) - 1, 0, ""), 3 + n);
            due("high ones, " + n, riseOf(3, 9, 256 - (1 << (8 - n)), 0, ""), 3 + n);
            due("Told, " + n, riseOf(6, 9, (1 << n) - 1, 0, ""), 3 + n - 4);
        }
    }

    // ---- whom one sees

    private static void reachBounds() {
        CHECK.says("REACH of one: 9, less HEIGHT by 10 (cut). It SEES another one, if no more than its REACH apart");
        StarchedCollars x = Made.creeds(0, 0);
        for (int height = 0; height <= 99; height++) {
            int reach = 9 - height / 10;
            x.set(0, 2, height);
            x.set(1, 0, reach);
            due("as far as its reach at " + height, x.of(0, 8), 2);
            if (reach < 9) {
                x.set(1, 0, reach + 1);
                due("one more at " + height, x.of(0, 8), 0);
            }
        }
    }

    private static void reachToTheLeft() {
        CHECK.says("if their PLACES are no more than its REACH apart");
        StarchedCollars x = Made.creeds(0, 0);
        x.set(0, 0, 9);
        for (int reach = 0; reach <= 8; reach++) {
            x.set(0, 2, 90 - 10 * reach);
            x.set(1, 0, 9 - reach);
            due("to the left, " + reach, x.of(0, 8), 2);
            x.set(1, 0, 8 - reach);
            due("one more to the left, " + reach, x.of(0, 8), 0);
        }
        due("the other's own reach", x.of(1, 8), 1);
    }

    private static void whoIsSeen() {
        CHECK.says("It SEES another one, neither AWAY");
        StarchedCollars x = Made.creeds(0, 0, 0, 0, 0, 0);
        for (int man = 0; man < 6; man++) {
            due("all but itself", x.of(man, 8), 63 - (1 << man));
        }
        x.stud(1, true);
        due("GONE ones are seen", x.of(0, 8), 62);
        due("GONE ones see", x.of(1, 8), 61);
        x.away(1, true);
        due("one AWAY is not seen", x.of(0, 8), 60);
        due("one AWAY sees none", x.of(1, 8), 0);
        StarchedCollars one = Made.creeds(0);
        due("one alone", one.of(0, 8), 0);
    }

    public static void main(String[] args) {
        newObject();
        nobody();
        eachItsOwn();
        kindsAndPlaces();
        numbersAndCreeds();
        sixMen();
        firstToldOfMan();
        atFirst();
        atFirstAgain();
        samePlace();
        whatOfMen();
        rowBounds();
        firstToldOfRow();
        rowOfWeek();
        setBounds();
        firstToldOfSet();
        heightSetAtBurst();
        studs();
        aways();
        apartBounds();
        toldBounds();
        toldBits();
        sharedArticles();
        passBounds();
        lastWeek();
        weekWithoutMen();
        heightBounds();
        lostArticle();
        notRisen();
        byHowAllIsAhead();
        cutHalves();
        risesByV();
        elderBounds();
        byArticles();
        reachBounds();
        reachToTheLeft();
        whoIsSeen();
        CHECK.end();
    }
}
