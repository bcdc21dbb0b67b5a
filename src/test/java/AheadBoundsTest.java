/** The bounds of weeks to come, walks, tables, BENCH, what is seen, odds and means: promises 13 to 22. */
public final class AheadBoundsTest {
    private static final int NONE = -1, BAD = -2, FULL = -4, NEVER = -5;
    private static final long NO = Long.MIN_VALUE;
    private static final int MIN = Integer.MIN_VALUE, MAX = Integer.MAX_VALUE;
    private static final Check CHECK = new Check("AheadBoundsTest");

    private AheadBoundsTest() {
    }

    private static void due(String call, long got, long want) {
        CHECK.due(call, got, want);
    }

    // ---- on

    private static void onWeeks() {
        CHECK.says("ON n WEEKS (0 .. 60). BAD: n");
        StarchedCollars x = Made.one("burst 99;starch 7 w=9;soften 3 w<9", 0, 0);
        x.man(0, 0, 0, 9);
        x.set(0, 2, 30);
        for (int n = 0; n <= 60; n++) {
            due("on(" + n + ", 10)", x.on(n, 10), 30 + n / 10 * 10);
            due("on(" + n + ", 11)", x.on(n, 11), n / 10 * 10);
            due("on(" + n + ", 21)", x.on(n, 21), 9);
            due("on(" + n + ", 0)", x.on(n, 0), 0);
        }
        int[] bad = {-1, 61, 62, MIN, MAX};
        for (int n : bad) {
            due("on(" + n + ", 0)", x.on(n, 0), BAD);
            due("on(" + n + ", 10)", x.on(n, 10), BAD);
            due("on(" + n + ", 21)", x.on(n, 21), BAD);
        }
        due("now", x.told(0) + x.of(0, 4), 30);
    }

    private static void onWhat() {
        CHECK.says("ON: what 0 whose STUDS are GONE, 10 and p HEIGHT, 20 and p CREED of MAN p. NONE");
        StarchedCollars x = new StarchedCollars();
        for (int men = 0; men <= 6; men++) {
            for (int what = -2; what <= 32; what++) {
                boolean isOne = what >= 10 && what < 10 + men || what >= 20 && what < 20 + men;
                int is = what == 0 ? 0 : what >= 20 ? 100 + what - 20 : 50 + what - 10;
                due("on(0, " + what + ") of " + men, x.on(0, what), isOne || what == 0 ? is : NONE);
            }
            x.man(0, 0, 0, 100 + men);
            x.set(men, 2, 50 + men);
        }
        int[] whats = {MIN, MIN + 9, MIN + 10, MIN + 20, -10, -20, MAX, MAX - 10};
        for (int what : whats) {
            due("on(0, " + what + ")", x.on(0, what), NONE);
            due("NONE ahead of BAD", x.on(61, what), NONE);
            due("NONE ahead of BAD, below", x.on(-1, what), NONE);
        }
        due("NONE ahead of BAD, 16", x.on(61, 16), NONE);
        due("NONE ahead of BAD, 26", x.on(-1, 26), NONE);
        due("NONE ahead of BAD, 1", x.on(61, 1), NONE);
    }

    private static void beyondLastWeek() {
        CHECK.says("All that follows is asked, goes on from how all is (WEEK beyond 9999, too), and changes nothing");
        StarchedCollars x = Made.one("burst 50;starch 3 w=0;starch 1 w=9", 0, 0);
        x.man(0, 0, 0, 3);
        x.away(0, true);
        x.away(1, true);
        Made.toLastWeek(x);
        x.away(0, false);
        due("behind week 9999", x.on(1, 10), 4);
        due("behind week 10000", x.on(2, 10), 10);
        due("behind ten weeks", x.on(10, 10), 34);
        due("behind sixty", x.on(60, 0), 1);
        due("creed behind sixty", x.on(60, 20), 0);
        due("when", x.when(0), 14);
        due("wash", x.wash(6), 0);
        x.set(0, 2, 15);
        due("wash, if it goes", x.wash(6), 1);
        x.see(0, 20, 0);
        due("highs behind twenty weeks", x.highs(0, 1), 0);
        due("firm behind twenty weeks", x.firm(0, 0), 10);
        due("odds", x.odds(0, 60, 0) * 10 + x.odds(0, 60, 1), 11);
        x.plan(0, 0);
        x.plan(0, 0);
        due("done", x.done(1), 25);
        due("week", x.told(0), 9999);
    }

    // ---- when

    private static void whenBounds() {
        CHECK.says("WHEN of one: the fewest WEEKS (0 .. 60) behind which its STUD is GONE (-5: not by then). NONE");
        StarchedCollars x = Made.one("burst 99;soften 2 p<6", 0, 0);
        for (int height = 0; height <= 99; height++) {
            x.set(0, 2, height);
            int weeks = Math.max(1, 99 - height);
            due("when at " + height, x.when(0), weeks <= 60 ? weeks : NEVER);
        }
        x.set(0, 2, 39);
        due("60", x.when(0), 60);
        x.set(0, 2, 38);
        due("61", x.when(0), NEVER);
        x.set(0, 2, 98);
        due("1", x.when(0), 1);
        x.away(0, true);
        due("one AWAY", x.when(0), NEVER);
        x.stud(0, true);
        due("one AWAY, GONE now", x.when(0), 0);
        x.away(0, false);
        due("GONE now", x.when(0), 0);
        int[] men = {-1, 1, 6, MIN, MAX};
        for (int man : men) {
            due("when(" + man + ")", x.when(man), NONE);
        }
    }

    // ---- walk

    private static void walkIs(StarchedCollars x, int... want) {
        due("walk(-1)", x.walk(-1), want[0]);
        for (int k = 1; k < want.length; k++) {
            due("walk(" + (k - 1) + ")", x.walk(k - 1), want[k] == 9 ? NEVER : want[k]);
        }
        due("walk(" + (want.length - 1) + ")", x.walk(want.length - 1), NONE);
    }

    private static void walkWhom() {
        CHECK.says("WALK: k -1 how much, else whom the k-th has (-5). NONE: k");
        StarchedCollars x = new StarchedCollars();
        for (int men = 0; men <= 6; men++) {
            due("walk(-1)", x.walk(-1), 0);
            due("walk(-2)", x.walk(-2), NONE);
            due("walk(MIN)", x.walk(MIN), NONE);
            due("walk(MAX)", x.walk(MAX), NONE);
            for (int k = men; k <= 9; k++) {
                due("walk(" + k + ") of " + men, x.walk(k), NONE);
            }
            x.man(0, 0, 0, 0);
        }
    }

    private static void walkOfFew() {
        CHECK.says("to pair those not AWAY, each with one other, or (at most one of them) with none");
        walkIs(Made.creeds(), 0);
        walkIs(Made.creeds(255), 0, 9);
        walkIs(Made.creeds(0, 255), 8, 1, 0);
        walkIs(Made.creeds(0, 255, 0), 0, 2, 9, 0);
        walkIs(Made.creeds(255, 0, 0), 0, 9, 2, 1);
        walkIs(Made.creeds(0, 0, 255), 0, 1, 0, 9);
        walkIs(Made.creeds(15, 0, 255, 0, 255), 0, 9, 3, 4, 1, 2);
        walkIs(Made.creeds(0, 15, 240, 255), 8, 1, 0, 3, 2);
        walkIs(Made.creeds(255, 0, 0, 255, 0), 0, 3, 2, 1, 0, 9);
        walkIs(Made.creeds(0, 0, 0, 255, 255, 255), 8, 1, 0, 3, 2, 5, 4);
        walkIs(Made.creeds(0, 255, 0, 255, 0, 255), 8, 1, 0, 4, 5, 2, 3);
    }

    private static void firstOfWalks() {
        CHECK.says("of several the first as a row of whom each has, by MEN, none and AWAY ones being 9");
        walkIs(Made.creeds(1, 2, 4), 2, 1, 0, 9);
        walkIs(Made.creeds(1, 2, 0), 1, 2, 9, 0);
        walkIs(Made.creeds(1, 1, 1, 1), 0, 1, 0, 3, 2);
        walkIs(Made.creeds(1, 2, 4, 8, 16), 4, 1, 0, 3, 2, 9);
        walkIs(Made.creeds(0, 0, 0, 0, 0, 0), 0, 1, 0, 3, 2, 5, 4);
        walkIs(Made.creeds(1, 1, 2, 2, 1, 2), 2, 1, 0, 3, 2, 5, 4);
        walkIs(Made.creeds(3, 1, 2, 0), 2, 1, 0, 3, 2);
        StarchedCollars x = Made.creeds(0, 0, 0, 0, 0, 0);
        x.away(0, true);
        walkIs(x, 0, 9, 2, 1, 4, 3, 9);
        x.away(2, true);
        walkIs(x, 0, 9, 3, 9, 1, 5, 4);
        x.away(5, true);
        walkIs(x, 0, 9, 3, 9, 1, 9, 9);
    }

    private static void walkOfThoseAway() {
        CHECK.says("WALK: those not AWAY");
        StarchedCollars x = Made.creeds(0, 0, 255, 255);
        x.away(0, true);
        x.away(2, true);
        walkIs(x, 8, 9, 3, 9, 1);
        x.away(1, true);
        walkIs(x, 0, 9, 9, 9, 9);
        x.away(3, true);
        walkIs(x, 0, 9, 9, 9, 9);
        StarchedCollars y = Made.creeds(0, 0);
        y.stud(0, true);
        y.set(1, 2, 99);
        walkIs(y, 0, 1, 0);
    }

    // ---- table

    private static void tableBounds() {
        CHECK.says("TABLE for q (0 .. 8). BAD");
        StarchedCollars x = Made.creeds(0, 0);
        int[] bad = {-1, 9, 10, MIN, MAX};
        for (int q : bad) {
            due("table(" + q + ")", x.table(q), BAD);
            due("table(" + q + ") of nobody", new StarchedCollars().table(q), BAD);
        }
        int creed = 0;
        for (int apart = 0; apart <= 8; apart++) {
            x.set(1, 1, creed);
            for (int q = 0; q <= 8; q++) {
                due("table(" + q + ") of " + apart, x.table(q), apart <= q ? 3 : 1);
            }
            creed = creed * 2 + 1;
        }
    }

    private static void tableOfFew() {
        CHECK.says("TABLE: the set with most MEN, none AWAY (bits; of several the least as bits)");
        due("nobody", new StarchedCollars().table(8), 0);
        StarchedCollars x = Made.creeds(0, 0, 0, 0, 0, 0);
        due("all six", x.table(0), 63);
        x.set(0, 1, 255);
        due("but the first", x.table(7), 62);
        x.set(1, 1, 255);
        x.set(2, 1, 255);
        due("of two sets the least", x.table(7), 7);
        x.away(1, true);
        due("one of them away", x.table(7), 56);
        due("all but the one away", x.table(8), 61);
        for (int man = 0; man < 6; man++) {
            x.away(man, true);
        }
        due("all away", x.table(8), 0);
        x.away(5, false);
        x.stud(5, true);
        due("one alone", x.table(0), 32);
        StarchedCollars y = Made.creeds(1, 2, 4, 8, 16, 32);
        due("each alone, the least", y.table(1), 1);
        due("all, at two", y.table(2), 63);
        StarchedCollars z = Made.creeds(3, 0, 3, 0);
        due("no two may be too far", z.table(1), 5);
    }

    // ---- bench

    private static void benchBounds() {
        CHECK.says("BENCH of one: the PLACE from which, were it there now, it SEES most others (of several the first)");
        StarchedCollars x = Made.creeds(0, 0, 0);
        x.set(0, 0, 5);
        due("all seen from 0", x.of(0, 9), 0);
        due("its place stays", x.of(0, 2), 5);
        x.set(0, 2, 99);
        x.set(1, 0, 9);
        x.set(2, 0, 9);
        due("9 alone", x.of(0, 9), 9);
        x.set(2, 0, 8);
        due("of two the first", x.of(0, 9), 8);
        x.set(0, 2, 89);
        due("one to the left is enough", x.of(0, 9), 8);
        x.set(0, 2, 79);
        due("two to the left is enough", x.of(0, 9), 7);
        x.set(0, 2, 9);
        due("nine to the left", x.of(0, 9), 0);
        x.set(0, 2, 10);
        due("eight to the left", x.of(0, 9), 1);
        x.away(1, true);
        due("those not AWAY alone", x.of(0, 9), 0);
        x.away(2, true);
        due("nobody to be seen", x.of(0, 9), 0);
        x.away(1, false);
        x.away(0, true);
        due("one AWAY sees none from anywhere", x.of(0, 9), 0);
        StarchedCollars one = new StarchedCollars();
        one.man(0, 0, 9, 0);
        due("one alone", one.of(0, 9), 0);
    }

    // ---- wash

    private static void washBounds() {
        CHECK.says("WASH of n (0 .. 6): the set with no more than n MEN. BAD");
        StarchedCollars x = new StarchedCollars();
        int[] bad = {-1, 7, 8, MIN, MAX};
        for (int men = 0; men <= 6; men++) {
            for (int n : bad) {
                due("wash(" + n + ") of " + men, x.wash(n), BAD);
            }
            for (int n = 0; n <= 6; n++) {
                due("wash(" + n + ") of " + men, x.wash(n), (1 << Math.min(n, men)) - 1);
            }
            x.man(0, 0, 0, 0);
            x.set(men, 2, 80);
        }
    }

    private static void twelveWeeks() {
        CHECK.says("WASH: fewest STUDS are GONE behind 12 WEEKS");
        StarchedCollars x = Made.one("", 0, 0);
        x.set(0, 2, 54);
        due("GONE behind 12", x.when(0), 12);
        due("it is washed", x.wash(1), 1);
        x.set(0, 2, 53);
        due("GONE behind 13", x.when(0), 13);
        due("it is not washed", x.wash(1), 0);
        StarchedCollars low = Made.one("burst 36", 0, 0);
        low.set(0, 2, 1);
        due("washed, it goes behind 12", low.wash(1), 0);
        StarchedCollars late = Made.one("burst 37", 0, 0);
        late.set(0, 2, 1);
        due("washed, it goes behind 13", late.wash(1), 1);
        due("height", late.of(0, 4), 1);
    }

    private static void firstOfWashes() {
        CHECK.says("WASH: of several with the fewest MEN, of these the least as bits");
        StarchedCollars x = Made.creeds(0, 0, 0, 0, 0, 0);
        due("none goes", x.wash(6), 0);
        x.set(5, 2, 99);
        due("the last alone", x.wash(6), 32);
        x.set(2, 2, 99);
        due("two", x.wash(6), 36);
        due("of one the least", x.wash(1), 4);
        x.stud(2, true);
        due("GONE is GONE", x.wash(1), 32);
        x.away(5, true);
        due("one AWAY does not go", x.wash(6), 0);
        StarchedCollars y = Made.one("starch 99 h=0;soften 9 h>0", 4, 0);
        y.set(0, 2, 60);
        due("it goes if it is washed", y.wash(6), 0);
    }

    // ---- see

    private static void seeBounds() {
        CHECK.says("SEEN: its HEIGHT behind n WEEKS (0 .. 20). BAD: n, height");
        StarchedCollars x = Made.creeds(0);
        int[] badWeeks = {-1, 21, 22, MIN, MAX};
        for (int n : badWeeks) {
            due("see(0, " + n + ", 0)", x.see(0, n, 0), BAD);
        }
        int[] badHeights = {-1, 100, 101, MIN, MAX};
        for (int height : badHeights) {
            due("see(0, 0, " + height + ")", x.see(0, 0, height), BAD);
        }
        due("count", x.count(2), 0);
        due("see(0, 0, 0)", x.see(0, 0, 0), 1);
        due("see(0, 20, 99)", x.see(0, 20, 99), 2);
        due("see(0, 20, 0)", x.see(0, 20, 0), 3);
        due("see(0, 0, 99)", x.see(0, 0, 99), 4);
        int[] men = {-2, 1, 6, MIN, MAX};
        for (int man : men) {
            due("see(" + man + ", 0, 0)", x.see(man, 0, 0), NONE);
            due("NONE ahead of n", x.see(man, 21, 0), NONE);
            due("NONE ahead of height", x.see(man, 0, 100), NONE);
        }
        due("count", x.count(2), 4);
    }

    private static void fiveSeen() {
        CHECK.says("SEEN: 5 at most; man -1: none then, 0, whatever the others are; FULL: 5");
        StarchedCollars x = Made.creeds(0);
        due("none of none", x.see(-1, 0, 0), 0);
        int[] odd = {0, -1, 21, 100, MIN, MAX};
        for (int other : odd) {
            for (int i = 1; i <= 5; i++) {
                due("see", x.see(0, 0, 7), i);
            }
            due("a sixth", x.see(0, 0, 7), FULL);
            due("NONE ahead of FULL", x.see(1, 0, 7), NONE);
            due("BAD ahead of FULL, n", x.see(0, 21, 7), BAD);
            due("BAD ahead of FULL, height", x.see(0, 0, 100), BAD);
            due("count", x.count(2), 5);
            due("see(-1, " + other + ", 0)", x.see(-1, other, 0), 0);
            due("count", x.count(2), 0);
            due("highs of all", x.highs(0, 0), 100);
            x.see(0, 0, 7);
            due("see(-1, 0, " + other + ")", x.see(-1, 0, other), 0);
            due("count", x.count(2), 0);
        }
        due("none, in an empty object", new StarchedCollars().see(-1, MIN, MAX), 0);
    }

    // ---- highs, firm

    private static void fittingRefused() {
        CHECK.says("highs, firm: what 0 how many, 1 the least; NONE");
        StarchedCollars x = Made.creeds(0);
        int[] men = {-1, 1, 6, MIN, MAX};
        for (int man : men) {
            due("highs(" + man + ", 0)", x.highs(man, 0), NONE);
            due("firm(" + man + ", 1)", x.firm(man, 1), NONE);
        }
        int[] whats = {-1, 2, 3, MIN, MAX};
        for (int what : whats) {
            due("highs(0, " + what + ")", x.highs(0, what), NONE);
            due("firm(0, " + what + ")", x.firm(0, what), NONE);
        }
    }

    private static void fits(StarchedCollars x, int highs, int high, int firms, int firm) {
        due("highs(0, 0)", x.highs(0, 0), highs);
        due("highs(0, 1)", x.highs(0, 1), high);
        due("firm(0, 0)", x.firm(0, 0), firms);
        due("firm(0, 1)", x.firm(0, 1), firm);
    }

    private static void allFit() {
        CHECK.says("HIGHS of one: how many numbers (0 .. 99); FIRM of one: how many numbers v (0 .. 9)");
        StarchedCollars x = Made.creeds(0, 0);
        fits(x, 100, 0, 10, 0);
        x.see(1, 0, 50);
        fits(x, 100, 0, 10, 0);
        x.set(0, 2, 45);
        x.stud(0, true);
        fits(x, 100, 0, 10, 0);
    }

    private static void noneFits() {
        CHECK.says("the least (-5: none)");
        StarchedCollars x = Made.creeds(0);
        x.see(0, 0, 7);
        fits(x, 1, 7, 0, NEVER);
        x.see(0, 0, 8);
        fits(x, 0, NEVER, 0, NEVER);
        x.see(-1, 0, 0);
        x.see(0, 1, 2);
        fits(x, 0, NEVER, 0, NEVER);
    }

    private static void endsOfHighs() {
        CHECK.says("HIGHS: numbers (0 .. 99)");
        for (int height = 0; height <= 99; height++) {
            StarchedCollars x = Made.creeds(0);
            x.see(0, 0, height);
            due("how many, of " + height, x.highs(0, 0), 1);
            due("the least, of " + height, x.highs(0, 1), height);
        }
        StarchedCollars low = Made.one("soften 5 p=0", 0, 0);
        low.see(0, 1, 0);
        due("0 .. 2, 92 .. 99", low.highs(0, 0), 3 + 8);
        due("the least", low.highs(0, 1), 0);
        low.see(0, 0, 99);
        due("99 alone", low.highs(0, 0), 1);
        due("99", low.highs(0, 1), 99);
        StarchedCollars high = Made.one("burst 99", 0, 0);
        high.see(0, 1, 0);
        due("96 .. 99", high.highs(0, 0), 4);
        due("96", high.highs(0, 1), 96);
    }

    private static void endsOfFirm() {
        CHECK.says("FIRM: numbers v (0 .. 9)");
        for (int v = 0; v <= 9; v++) {
            StarchedCollars x = Made.one("", 1, 5);
            x.see(0, 1, 3 + v);
            due("how many, of " + v, x.firm(0, 0), 1);
            due("the least, of " + v, x.firm(0, 1), v);
            due("v stays", x.of(0, 1), 5);
        }
        StarchedCollars below = Made.one("", 1, 5);
        below.see(0, 1, 2);
        due("v -1 is not", below.firm(0, 0), 0);
        StarchedCollars above = Made.one("", 1, 5);
        above.see(0, 1, 13);
        due("v 10 is not", above.firm(0, 0), 0);
        StarchedCollars some = Made.one("starch 1 v>7", 0, 0);
        some.see(0, 1, 4);
        due("8 and 9", some.firm(0, 0), 2);
        due("8", some.firm(0, 1), 8);
    }

    private static void twentyWeeks() {
        CHECK.says("SEEN: behind n WEEKS (0 .. 20) from now");
        for (int n = 0; n <= 20; n++) {
            StarchedCollars x = Made.one("burst 99;soften 1 p=0", 0, 0);
            x.see(0, n, 45);
            due("behind " + n, x.highs(0, 1), 45 - 2 * n);
            due("one", x.highs(0, 0), 1);
            x.pass(3);
            due("from now, when it is asked", x.highs(0, 1), 45 - 2 * n);
            x.away(0, true);
            due("one AWAY", x.highs(0, 1), 45);
        }
        StarchedCollars late = Made.one("starch 20 w=9;starch 10 w=0;soften 3 w>0&w<9", 0, 0);
        late.away(0, true);
        late.pass(9);
        late.away(0, false);
        late.see(0, 1, 30);
        late.see(0, 2, 43);
        late.see(0, 10, 43);
        due("by the weeks from now on", late.highs(0, 1), 7);
        due("one", late.highs(0, 0), 1);
        StarchedCollars all = Made.one("burst 99;soften 1 p=0", 0, 0);
        int[] weeks = {20, 0, 10, 1, 19};
        for (int n : weeks) {
            all.see(0, n, 5 + 2 * n);
        }
        due("all five are so", all.highs(0, 1), 5);
        due("by one alone", all.highs(0, 0), 1);
        all.see(-1, 0, 0);
        int[] others = {20, 0, 10, 1};
        for (int n : others) {
            all.see(0, n, 5 + 2 * n);
        }
        all.see(0, 19, 44);
        due("the fifth is not", all.highs(0, 0), 0);
    }

    // ---- odds, mean

    private static void oddsAre(StarchedCollars x, int n, long above, long below) {
        due("odds(0, " + n + ", 0)", x.odds(0, n, 0), above);
        due("odds(0, " + n + ", 1)", x.odds(0, n, 1), below);
    }

    private static void oddsRefused() {
        CHECK.says("ODDS. NO: man, n, part");
        StarchedCollars x = Made.creeds(0);
        int[] men = {-1, 1, 6, MIN, MAX};
        for (int man : men) {
            due("odds(" + man + ", 0, 0)", x.odds(man, 0, 0), NO);
        }
        int[] weeks = {-1, 61, 62, MIN, MAX};
        for (int n : weeks) {
            due("odds(0, " + n + ", 0)", x.odds(0, n, 0), NO);
            due("odds(0, " + n + ", 1)", x.odds(0, n, 1), NO);
        }
        int[] parts = {-1, 2, 3, MIN, MAX};
        for (int part : parts) {
            due("odds(0, 0, " + part + ")", x.odds(0, 0, part), NO);
            due("odds(0, 60, " + part + ")", x.odds(0, 60, part), NO);
        }
    }

    private static void oddsOfWeeks() {
        CHECK.says("ODDS of one and n WEEKS (0 .. 60)");
        StarchedCollars x = Made.one("burst 60;soften 2 p=0", 0, 0);
        oddsAre(x, 0, 0, 1);
        oddsAre(x, 59, 0, 1);
        oddsAre(x, 60, 1, 1);
        x.stud(0, true);
        oddsAre(x, 0, 1, 1);
        x.away(0, true);
        oddsAre(x, 60, 1, 1);
        x.stud(0, false);
        oddsAre(x, 60, 0, 1);
    }

    private static void oddsByArticles() {
        CHECK.says("if it holds one ARTICLE more, or less (if it holds that), each of 8 alike likely; in lowest terms");
        int[] above = {0, 1, 1, 3, 1, 5, 3, 7, 1};
        int[] below = {1, 8, 4, 8, 2, 8, 4, 8, 1};
        for (int holds = 0; holds <= 8; holds++) {
            if (holds > 0) {
                StarchedCollars less = Made.one("burst 40;starch 37 c=" + (holds - 1), 0, 0);
                less.set(0, 1, (1 << holds) - 1);
                oddsAre(less, 1, above[holds], below[holds]);
                due("creed", less.of(0, 3), (1 << holds) - 1);
            }
            if (holds < 8) {
                StarchedCollars more = Made.one("burst 40;starch 37 c=" + (holds + 1), 0, 0);
                more.set(0, 1, (1 << holds) - 1);
                oddsAre(more, 1, above[8 - holds], below[8 - holds]);
            }
            StarchedCollars same = Made.one("burst 40;starch 37 c=" + holds, 0, 0);
            same.set(0, 1, (1 << holds) - 1);
            oddsAre(same, 1, 0, 1);
        }
    }

    private static void meanRefused() {
        CHECK.says("MEAN. NO: part, there are none");
        StarchedCollars x = new StarchedCollars();
        int[] parts = {-1, 2, 3, MIN, MAX};
        for (int men = 0; men <= 6; men++) {
            for (int part : parts) {
                due("mean(" + part + ")", x.mean(part), NO);
            }
            due("mean(0) of " + men, x.mean(0), men == 0 ? NO : 0);
            due("mean(1) of " + men, x.mean(1), men == 0 ? NO : 1);
            x.man(0, 0, 0, 0);
        }
        for (int man = 0; man < 6; man++) {
            due("not all AWAY", x.mean(1), 1);
            x.away(man, true);
        }
        due("all AWAY", x.mean(0), NO);
        due("all AWAY, below", x.mean(1), NO);
    }

    private static void lowestTerms() {
        CHECK.says("MEAN: HEIGHTS of those not AWAY, together, by how many they are: a fraction in lowest terms");
        StarchedCollars x = Made.creeds(0, 0, 0, 0, 0, 0);
        int[] above = {0, 1, 1, 1, 2, 5, 1, 7, 4, 3, 5, 11, 2};
        int[] below = {1, 6, 3, 2, 3, 6, 1, 6, 3, 2, 3, 6, 1};
        for (int height = 0; height < above.length; height++) {
            x.set(3, 2, height);
            due("above, of " + height + " by 6", x.mean(0), above[height]);
            due("below, of " + height + " by 6", x.mean(1), below[height]);
        }
        for (int man = 0; man < 6; man++) {
            x.set(man, 2, 99);
        }
        due("the most", x.mean(0), 99);
        due("the most, below", x.mean(1), 1);
        x.set(0, 2, 98);
        due("one less", x.mean(0), 593);
        due("one less, below", x.mean(1), 6);
        x.away(0, true);
        x.stud(1, true);
        due("without one", x.mean(0) * 10 + x.mean(1), 991);
    }

    public static void main(String[] args) {
        onWeeks();
        onWhat();
        beyondLastWeek();
        whenBounds();
        walkWhom();
        walkOfFew();
        firstOfWalks();
        walkOfThoseAway();
        tableBounds();
        tableOfFew();
        benchBounds();
        washBounds();
        twelveWeeks();
        firstOfWashes();
        seeBounds();
        fiveSeen();
        fittingRefused();
        allFit();
        noneFits();
        endsOfHighs();
        endsOfFirm();
        twentyWeeks();
        oddsRefused();
        oddsOfWeeks();
        oddsByArticles();
        meanRefused();
        lowestTerms();
        CHECK.end();
    }
}
