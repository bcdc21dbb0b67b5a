/** The bounds of the PLAN, BOOK, ACTS, THE TRACE, THE IMAGE, and of an object's calls: promises 23 to 32. */
public final class RowsBoundsTest {
    private static final int NONE = -1, BAD = -2, STATE = -3, FULL = -4, NEVER = -5, OTHER = -6;
    private static final int MIN = Integer.MIN_VALUE, MAX = Integer.MAX_VALUE;
    private static final Check CHECK = new Check("RowsBoundsTest");

    private RowsBoundsTest() {
    }

    private static void due(String call, long got, long want) {
        CHECK.due(call, got, want);
    }

    // ---- plans

    private static void planRefused() {
        CHECK.says("plan, NONE: what, MAN (but by 0)");
        StarchedCollars x = Made.creeds(0, 0);
        int[] whats = {-2, 4, 5, MIN, MAX};
        for (int what : whats) {
            due("plan(" + what + ", 0)", x.plan(what, 0), NONE);
        }
        int[] men = {-1, 2, 6, MIN, MAX};
        for (int man : men) {
            for (int what = 1; what <= 3; what++) {
                due("plan(" + what + ", " + man + ")", x.plan(what, man), NONE);
            }
        }
        due("count", x.count(3), 0);
        for (int i = 0; i < men.length; i++) {
            due("plan(0, " + men[i] + ")", x.plan(0, men[i]), i + 1);
        }
        for (int what = 1; what <= 3; what++) {
            due("plan(" + what + ", 1)", x.plan(what, 1), men.length + what);
        }
    }

    private static void planOfNobody() {
        CHECK.says("0 a WEEK goes (the other not looked at)");
        StarchedCollars x = new StarchedCollars();
        int[] men = {0, -1, 1, MIN, MAX};
        for (int i = 0; i < men.length; i++) {
            due("plan(0, " + men[i] + ")", x.plan(0, men[i]), i + 1);
        }
        due("plan(1, 0)", x.plan(1, 0), NONE);
        due("done(0)", x.done(0), 0);
        due("done(1)", x.done(1), 0);
        x.man(0, 0, 0, 0);
        due("done(1), of one who came then", x.done(1), 15);
    }

    private static void eightPlans() {
        CHECK.says("PLAN: 8 at most; what -1: none then, 0, whatever the other is; FULL: 8");
        StarchedCollars x = Made.creeds(0);
        due("none of none", x.plan(-1, 0), 0);
        int[] odd = {0, -1, 1, MIN, MAX};
        for (int other : odd) {
            for (int i = 1; i <= 8; i++) {
                due("plan", x.plan(i % 4, 0), i);
            }
            for (int what = 0; what <= 3; what++) {
                due("a ninth", x.plan(what, 0), FULL);
            }
            due("NONE ahead of FULL, what", x.plan(4, 0), NONE);
            due("NONE ahead of FULL, MAN", x.plan(3, 1), NONE);
            due("no MAN is looked at by 0", x.plan(0, 1), FULL);
            due("count", x.count(3), 8);
            due("plan(-1, " + other + ")", x.plan(-1, other), 0);
            due("count", x.count(3), 0);
        }
        due("none, in an empty object", new StarchedCollars().plan(-1, MAX), 0);
    }

    private static void doneBounds() {
        CHECK.says("done. NONE");
        StarchedCollars x = Made.creeds(0);
        int[] whats = {-1, 2, 3, MIN, MAX};
        for (int what : whats) {
            due("done(" + what + ")", x.done(what), NONE);
        }
        x.set(0, 2, 99);
        x.stud(0, true);
        due("no rows, 0", x.done(0), 1);
        due("no rows, 1", x.done(1), 99);
    }

    private static void doneOfAll() {
        CHECK.says("DONE: whose STUDS are GONE (bits); HEIGHTS of all, together");
        StarchedCollars x = Made.creeds(0, 0, 0, 0, 0, 0);
        for (int man = 0; man < 6; man++) {
            x.set(man, 2, 99);
            x.stud(man, true);
        }
        due("six gone", x.done(0), 63);
        due("six at 99", x.done(1), 594);
        x.away(0, true);
        due("AWAY ones, too", x.done(0), 63);
        due("AWAY ones' HEIGHT, too", x.done(1), 594);
        StarchedCollars y = Made.creeds(0, 0, 0, 0, 0, 0);
        for (int i = 0; i < 8; i++) {
            y.plan(0, 0);
        }
        due("eight weeks of six", y.done(1), 6 * 24);
        due("week stays", y.told(0), 0);
        due("height stays", y.of(5, 4), 0);
    }

    private static void rowByRow() {
        CHECK.says("1 HEIGHT of one is 0, 2 the STUD of one is there, 3 one is AWAY");
        StarchedCollars x = Made.creeds(0, 0);
        x.set(0, 2, 88);
        x.set(1, 2, 50);
        x.plan(1, 0);
        due("washed", x.done(1), 50);
        x.plan(0, 0);
        due("a week then", x.done(1), 56);
        x.plan(-1, 0);
        x.plan(0, 0);
        x.plan(1, 0);
        due("GONE, then washed", x.done(0), 1);
        x.plan(2, 0);
        due("then there", x.done(0), 0);
        x.plan(2, 0);
        x.plan(3, 1);
        x.plan(3, 1);
        x.plan(0, 0);
        due("the other one AWAY", x.done(1), 3 + 53);
        due("nothing is changed", x.told(2) + x.told(3), 0);
        due("nor HEIGHT", x.of(0, 4), 88);
    }

    // ---- books

    private static void bookRefused() {
        CHECK.says("book, NONE; BAD: creed");
        StarchedCollars x = Made.creeds(0, 0);
        int[] creeds = {-1, 256, 257, MIN, MAX};
        for (int creed : creeds) {
            due("book(1, " + creed + ")", x.book(1, creed), BAD);
        }
        int[] men = {-2, 2, 6, MIN, MAX};
        for (int man : men) {
            due("book(" + man + ", 0)", x.book(man, 0), NONE);
            due("NONE ahead of BAD", x.book(man, 256), NONE);
        }
        due("count", x.count(4), 0);
        due("book(1, 0)", x.book(1, 0), 1);
        due("book(0, 255)", x.book(0, 255), 2);
    }

    private static void eightBooks() {
        CHECK.says("BOOK: 8 at most; man -1: none then, 0, whatever the other is; FULL: 8");
        StarchedCollars x = Made.creeds(0);
        due("none of none", x.book(-1, 0), 0);
        int[] odd = {0, -1, 256, MIN, MAX};
        for (int other : odd) {
            for (int i = 1; i <= 8; i++) {
                due("book", x.book(0, i == 8 ? 1 : 0), i);
            }
            due("a ninth", x.book(0, 2), FULL);
            due("NONE ahead of FULL", x.book(1, 0), NONE);
            due("BAD ahead of FULL", x.book(0, 256), BAD);
            due("count", x.count(4), 8);
            due("looked at the eighth", x.looked(), 7);
            due("book(-1, " + other + ")", x.book(-1, other), 0);
            due("count", x.count(4), 0);
            due("looked at none", x.looked(), NEVER);
        }
        due("none, in an empty object", new StarchedCollars().book(-1, MAX), 0);
    }

    private static void lookedAt() {
        CHECK.says("LOOKED at: the first by which it is otherwise now (-5: none)");
        StarchedCollars x = Made.creeds(0, 255);
        due("no rows", x.looked(), NEVER);
        x.book(0, 0);
        x.book(1, 255);
        due("all as told", x.looked(), NEVER);
        x.book(1, 254);
        due("one ARTICLE", x.looked(), 2);
        x.book(0, 128);
        due("the first of two", x.looked(), 2);
        x.set(1, 1, 254);
        due("otherwise now", x.looked(), 1);
        x.set(0, 1, 128);
        due("the first of all", x.looked(), 0);
        x.book(-1, 0);
        Made.town(x, "burst 0");
        x.book(0, 128);
        x.book(1, 254);
        x.pass(1);
        due("an ARTICLE not held is not lost", x.looked(), NEVER);
        x.set(1, 1, 255);
        x.stud(1, false);
        x.book(-1, 0);
        x.book(1, 255);
        x.pass(1);
        due("lost in a WEEK", x.looked(), 0);
    }

    // ---- acts

    private static void actRefused() {
        CHECK.says("act: 0, and no TRACE then: no such MAN, act");
        StarchedCollars x = Made.one("", 0, 1);
        int[] men = {-1, 1, 6, MIN, MAX};
        for (int man : men) {
            due("act", x.act(0, 2, 5), 8);
            due("bodies", x.count(6), 3);
            due("act(" + man + ", 0, 5)", x.act(man, 0, 5), 0);
            due("no bodies", x.count(6), 0);
            due("no trace", x.trace(0), NONE);
        }
        int[] acts = {-1, 3, 4, MIN, MAX};
        for (int act : acts) {
            due("act", x.act(0, 2, 5), 8);
            due("act(0, " + act + ", 5)", x.act(0, act, 5), 0);
            due("no bodies", x.count(6), 0);
            due("no trace", x.trace(0), NONE);
            due("nor another", x.trace(2), NONE);
        }
        due("of neither", x.act(1, 3, 5), 0);
        due("act 0", x.act(0, 0, 5), 5);
        due("act 1", x.act(0, 1, 5), 4);
        due("act 2", x.act(0, 2, 5), 8);
    }

    private static int actOf(int kind, int v, int act, int x) {
        return Made.one("", kind, v).act(0, act, x);
    }

    private static int actOfLast(int kind, int v, int act, int x) {
        StarchedCollars collars = Made.creeds(0, 0, 0, 0, 0);
        collars.man(kind, v, 0, 0);
        return collars.act(5, act, x);
    }

    private static void wrapsOfMan() {
        CHECK.says("x (ints, wrapping): 1 nods: x + i. 2 preaches: nods(x) - v. 3 turns: preaches(x) * 2");
        due("MAX", actOf(0, 0, 0, MAX), MAX);
        due("MIN", actOf(0, 0, 0, MIN), MIN);
        due("MAX + 5", actOfLast(0, 0, 0, MAX), MIN + 4);
        due("MAX - 5 + 5", actOfLast(0, 0, 0, MAX - 5), MAX);
        due("MIN - 9", actOf(0, 9, 1, MIN), MAX - 8);
        due("MIN + 9 - 9", actOf(0, 9, 1, MIN + 9), MIN);
        due("MAX + 5 - 9", actOfLast(0, 9, 1, MAX), MAX - 4);
        due("MAX * 2", actOf(0, 0, 2, MAX), -2);
        due("MIN * 2", actOf(0, 0, 2, MIN), 0);
        due("(1 << 30) * 2", actOf(0, 0, 2, 1 << 30), MIN);
        due("((1 << 30) - 1) * 2", actOf(0, 0, 2, (1 << 30) - 1), MAX - 1);
        due("(MIN - 1) * 2", actOf(0, 1, 2, MIN), -2);
    }

    private static void wrapsOfOthers() {
        CHECK.says("x (ints, wrapping): 11 x * 3, 21 -, 31 ^ 7, 41 x - 1, +, 51 ^ i, 61 + v");
        due("11: MAX * 3", actOf(1, 0, 0, MAX), MAX - 2);
        due("11: MIN * 3", actOf(1, 0, 0, MIN), MIN);
        due("11: (1 << 30) * 3", actOf(1, 0, 0, 1 << 30), -(1 << 30));
        due("11: 715827882 * 3", actOf(1, 0, 0, 715827882), MAX - 1);
        due("11: 715827883 * 3", actOf(1, 0, 0, 715827883), MIN + 1);
        due("21: -MIN", actOf(2, 0, 1, MIN), MIN);
        due("21: -MAX", actOf(2, 0, 1, MAX), MIN + 1);
        due("21: -(MIN - 1)", actOf(2, 1, 1, MIN), MIN + 1);
        due("31: (MAX * 2) ^ 7", actOf(3, 0, 2, MAX), -7);
        due("31: (MIN * 2) ^ 7", actOf(3, 0, 2, MIN), 7);
        due("41: MIN - 1", actOf(4, 0, 2, MIN), 0);
        due("41: MAX - 1 + 6", actOf(4, 0, 2, 357913942), MIN + 4);
        due("41: MAX - 7 + 6", actOf(4, 0, 2, 357913941), MAX - 1);
        due("51: (MAX + 5) ^ 5", actOfLast(5, 0, 0, MAX), MIN + 1);
        due("51: -1 ^ 5", actOfLast(5, 0, 0, -6), -6);
        due("61: MIN - 9 + 9", actOf(6, 9, 1, MIN), MIN);
        due("61: MAX + 5 - 9 + 9", actOfLast(6, 9, 1, MAX), MIN + 4);
        due("61, 31: (MIN * 2) ^ 7", actOf(6, 9, 2, MIN), 7);
    }

    private static void bodiesAre(int kind, int act, int... want) {
        StarchedCollars x = Made.one("", kind, 3);
        x.act(0, act, 5);
        due("bodies of kind " + kind + ", act " + act, x.count(6), want.length);
        for (int i = 0; i < want.length; i++) {
            due("trace(" + i + ") of kind " + kind + ", act " + act, x.trace(i), want[i]);
        }
        int[] none = {-1, want.length, 19, 20, 21, MIN, MAX};
        for (int i : none) {
            due("trace(" + i + ")", x.trace(i), NONE);
        }
    }

    private static void tracesOfKinds() {
        CHECK.says("THE TRACE: the bodies that ran in the latest act(), as they began; the first 20 are kept. NONE");
        bodiesAre(0, 0, 1);
        bodiesAre(0, 1, 2, 1);
        bodiesAre(0, 2, 3, 2, 1);
        bodiesAre(1, 0, 11, 1);
        bodiesAre(1, 1, 2, 11, 1);
        bodiesAre(1, 2, 3, 2, 11, 1);
        bodiesAre(2, 0, 1);
        bodiesAre(2, 1, 21, 2, 1);
        bodiesAre(2, 2, 3, 21, 2, 1);
        bodiesAre(3, 0, 1);
        bodiesAre(3, 1, 2, 1);
        bodiesAre(3, 2, 31, 3, 2, 1);
        bodiesAre(4, 0, 11, 1);
        bodiesAre(4, 1, 2, 11, 1);
        bodiesAre(4, 2, 41, 3, 2, 11, 1, 11, 1);
        bodiesAre(5, 0, 51, 1);
        bodiesAre(5, 1, 21, 2, 51, 1);
        bodiesAre(5, 2, 3, 21, 2, 51, 1);
        bodiesAre(6, 0, 1);
        bodiesAre(6, 1, 61, 2, 1);
        bodiesAre(6, 2, 31, 3, 61, 2, 1);
    }

    private static void latestTrace() {
        CHECK.says("the bodies that ran in the latest act()");
        StarchedCollars x = new StarchedCollars();
        due("no act yet", x.trace(0), NONE);
        due("no bodies yet", x.count(6), 0);
        x.man(4, 0, 0, 0);
        for (int i = 0; i < 5; i++) {
            x.act(0, 2, 1);
            due("seven", x.count(6), 7);
            due("the seventh", x.trace(6), 1);
            due("an eighth", x.trace(7), NONE);
            x.act(0, 0, 1);
            due("two", x.count(6), 2);
            due("the first", x.trace(0), 11);
            due("a third", x.trace(2), NONE);
        }
    }

    // ---- as

    private static void asBounds() {
        CHECK.says("as: A MAN taken for a KIND k (0 .. 6), or one under that: its v. NONE: man, k; -6");
        int[][] kindsAbove = {{0}, {0, 1}, {0, 2}, {0, 3}, {0, 1, 4}, {0, 2, 5}, {0, 3, 6}};
        for (int kind = 0; kind <= 6; kind++) {
            StarchedCollars x = Made.one("", kind, 9);
            for (int k = 0; k <= 6; k++) {
                boolean is = false;
                for (int above : kindsAbove[kind]) {
                    is |= above == k;
                }
                due(kind + " as " + k, x.as(0, k), is ? 9 : OTHER);
            }
            int[] bad = {-1, 7, 8, MIN, MAX};
            for (int k : bad) {
                due(kind + " as " + k, x.as(0, k), NONE);
            }
            int[] men = {-1, 1, 6, MIN, MAX};
            for (int man : men) {
                due("as(" + man + ", 0)", x.as(man, 0), NONE);
                due("as(" + man + ", 7)", x.as(man, 7), NONE);
            }
        }
        due("v 0", Made.one("", 6, 0).as(0, 6), 0);
    }

    // ---- the image

    private static void noImage() {
        CHECK.says("undo, STATE: there is none");
        StarchedCollars x = Made.creeds(7);
        due("undo", x.undo(), STATE);
        due("undo, again", x.undo(), STATE);
        due("MEN", x.count(0), 1);
        due("creed", x.of(0, 3), 7);
    }

    private static void imageOfMen() {
        CHECK.says("image: how many MANS there are; undo: All is as THE IMAGE: how many MANS");
        StarchedCollars x = new StarchedCollars();
        due("nobody", x.image(), 0);
        for (int man = 0; man < 6; man++) {
            x.man(man, 0, 0, man);
        }
        due("nobody again", x.undo(), 0);
        due("MEN", x.count(0), 0);
        due("of", x.of(0, 3), -999999);
        due("undo, again", x.undo(), 0);
        for (int man = 0; man < 6; man++) {
            due("man", x.man(6 - man, 0, 0, man), man);
            due("image", x.image(), man + 1);
        }
        due("undo, of the latest image", x.undo(), 6);
        due("undo, again", x.undo(), 6);
        due("kind of the last", x.of(5, 0), 1);
        due("a seventh", x.man(0, 0, 0, 0), FULL);
    }

    private static void imageStays() {
        CHECK.says("THE IMAGE: all that there is (but THE IMAGE and THE TRACE)");
        StarchedCollars x = Made.one("burst 40;starch 5 p=0", 6, 4);
        x.row(0, 3, 6);
        Made.feed(x, "burst 3");
        x.pass(3);
        x.see(0, 0, 7);
        x.plan(1, 0);
        x.book(0, 9);
        x.act(0, 2, 1);
        x.image();
        for (int i = 0; i < 3; i++) {
            x.row(0, 3, 1);
            x.set(0, 0, 9);
            x.set(0, 1, 255);
            x.set(0, 2, 99);
            x.stud(0, true);
            x.away(0, true);
            x.feed('9');
            due("a town", x.town(), 1);
            due("its burst", x.told(1), 39);
            Made.feed(x, "soften");
            x.pass(60);
            x.see(-1, 0, 0);
            x.see(0, 20, 50);
            x.plan(-1, 0);
            x.plan(0, 0);
            x.book(-1, 0);
            x.book(0, 0);
            x.man(0, 0, 0, 0);
            x.act(0, 0, 1);
            due("undo", x.undo(), 1);
            int[] is = {6, 4, 0, 0, 12, 0, 0, 10, 0, 0};
            for (int what = 0; what < is.length; what++) {
                due("of(0, " + what + ")", x.of(0, what), is[what]);
            }
            int[] counts = {1, 1, 1, 1, 1, 7, 1};
            for (int what = 0; what < counts.length; what++) {
                due("count(" + what + ")", x.count(what), counts[what]);
            }
            due("week", x.told(0), 3);
            due("burst", x.told(1), 40);
            due("highs", x.highs(0, 1), 7);
            due("done", x.done(1), 0);
            due("looked", x.looked(), 0);
            due("the latest act's trace", x.trace(0), 1);
        }
    }

    private static void undoOfFull() {
        CHECK.says("All is as THE IMAGE, when it was full");
        StarchedCollars x = Made.creeds(0, 0, 0, 0, 0, 0);
        for (int i = 0; i < 5; i++) {
            Made.town(x, "burst 5" + i);
        }
        Made.feed(x, Made.times(100, "b"));
        for (int i = 0; i < 8; i++) {
            x.see(0, 0, 0);
            x.plan(0, 0);
            x.book(0, 0);
        }
        x.image();
        x.see(-1, 0, 0);
        x.plan(-1, 0);
        x.book(-1, 0);
        due("undo", x.undo(), 6);
        int[] counts = {6, 5, 5, 8, 8, 100};
        for (int what = 0; what < counts.length; what++) {
            due("count(" + what + ")", x.count(what), counts[what]);
        }
        due("man", x.man(0, 0, 0, 0), FULL);
        due("town", x.town(), FULL);
        due("feed", x.feed(0), FULL);
        due("see", x.see(0, 0, 0), FULL);
        due("plan", x.plan(0, 0), FULL);
        due("book", x.book(0, 0), FULL);
        due("burst", x.told(1), 54);
    }

    // ---- counts

    private static void countBounds() {
        CHECK.says("count. NONE");
        StarchedCollars x = Made.creeds(0);
        int[] whats = {-1, 7, 8, MIN, MAX};
        for (int what : whats) {
            due("count(" + what + ")", x.count(what), NONE);
        }
        int[] least = {1, 0, 0, 0, 0, 0, 0};
        for (int what = 0; what <= 6; what++) {
            due("count(" + what + ")", x.count(what), least[what]);
        }
    }

    private static void lastCalls() {
        CHECK.says("An object is used for at most 512 calls after it has been made");
        StarchedCollars x = new StarchedCollars();
        Made.feed(x, "burst 99");
        x.town();
        x.man(6, 1, 0, 3);
        for (int call = 11; call <= 510; call++) {
            due("call " + call, x.set(0, 2, call % 100), call == 11 ? 0 : (call - 1) % 100);
        }
        due("call 511", x.of(0, 4), 10);
        due("call 512", x.pass(1), 1);
        for (int call = 513; call <= 3000; call++) {
            x.feed(call % 128);
            x.town();
            x.man(0, 0, 0, 0);
            x.row(0, call % 4, 9);
            x.see(0, 20, 0);
            x.plan(0, 0);
            x.book(0, 0);
            x.image();
            x.act(0, 2, call);
            x.pass(60);
            x.highs(0, 1);
            x.done(1);
            x.undo();
        }
        CHECK.isTrue("later calls end", true);
    }

    private static void constants() {
        CHECK.says("The constants");
        due("NONE", StarchedCollars.NONE, -1);
        due("BAD", StarchedCollars.BAD, -2);
        due("STATE", StarchedCollars.STATE, -3);
        due("FULL", StarchedCollars.FULL, -4);
        due("NO", StarchedCollars.NO, Long.MIN_VALUE);
    }

    public static void main(String[] args) {
        planRefused();
        planOfNobody();
        eightPlans();
        doneBounds();
        doneOfAll();
        rowByRow();
        bookRefused();
        eightBooks();
        lookedAt();
        actRefused();
        wrapsOfMan();
        wrapsOfOthers();
        tracesOfKinds();
        latestTrace();
        asBounds();
        noImage();
        imageOfMen();
        imageStays();
        undoOfFull();
        countBounds();
        lastCalls();
        constants();
        CHECK.end();
    }
}
