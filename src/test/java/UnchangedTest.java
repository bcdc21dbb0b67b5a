import java.util.ArrayList;
import java.util.List;

/**
 * Each refused call has its answer and changes nothing, and what is asked changes nothing: an object on which it was
 * called and one on which it was not answer a long row of other calls alike.
 */
public final class UnchangedTest {
    private static final int NONE = -1, BAD = -2, STATE = -3, FULL = -4, NONE_OF = -999999;
    private static final long NO = Long.MIN_VALUE;
    private static final int MIN = Integer.MIN_VALUE, MAX = Integer.MAX_VALUE;
    private static final Check CHECK = new Check("UnchangedTest");

    /** What an object has been made to be, ahead of the call. */
    private enum How { EMPTY, ORDINARY, FULL_UP, LATE }

    private interface Call {
        long on(StarchedCollars x);
    }

    private UnchangedTest() {
    }

    private static StarchedCollars made(How how) {
        StarchedCollars x = new StarchedCollars();
        if (how == How.EMPTY) {
            return x;
        }
        if (how == How.FULL_UP) {
            for (int i = 0; i < 4; i++) {
                Made.town(x, "burst 8" + i);
            }
        }
        Made.town(x, "burst 60;starch 5 w=3&k<6;soften 2 h>2");
        for (int i = 0; i < (how == How.FULL_UP ? 6 : 3); i++) {
            x.man(6 - i, 2 + i, 3 * i % 10, 37 * (i + 1));
            x.set(i, 2, 5 + 7 * i);
        }
        x.row(0, 1, 7);
        x.stud(1, true);
        x.away(2, true);
        if (how == How.LATE) {
            x.away(0, true);
            Made.toLastWeek(x);
            x.away(0, false);
        } else {
            x.image();
            x.pass(2);
        }
        Made.feed(x, how == How.FULL_UP ? Made.times(100, "b") : "burst 3");
        for (int i = 0; i < (how == How.FULL_UP ? 8 : 1); i++) {
            x.see(0, 1, x.on(1, 10));
            x.plan(2, 1);
            x.book(0, 37);
        }
        x.act(0, 2, 9);
        return x;
    }

    /** All that can be asked. */
    private static void ask(StarchedCollars x, List<Long> answers) {
        for (int i = 0; i < 7; i++) {
            answers.add((long) x.count(i));
            answers.add((long) x.told(i));
            answers.add((long) x.trace(i));
        }
        for (int man = 0; man < 6; man++) {
            for (int what = 0; what < 10; what++) {
                answers.add((long) x.of(man, what));
            }
            answers.add((long) x.on(3, 10 + man));
            answers.add((long) x.when(man));
            answers.add((long) x.walk(man));
            answers.add((long) x.highs(man, 1));
        }
        answers.add((long) x.done(0));
        answers.add((long) x.done(1));
        answers.add((long) x.looked());
        answers.add((long) x.wash(6));
        answers.add((long) x.table(4));
    }

    /** What is not to be seen but by a change comes behind all that can be asked. */
    private static List<Long> tail(StarchedCollars x) {
        List<Long> answers = new ArrayList<>();
        ask(x, answers);
        for (int k = 0; k < 4; k++) {
            answers.add((long) x.row(0, k, 9 - k));
        }
        answers.add((long) x.feed('9'));
        answers.add((long) x.town());
        answers.add((long) x.plan(0, 0));
        answers.add((long) x.done(1));
        answers.add((long) x.see(0, 0, 50));
        answers.add((long) x.highs(0, 0));
        answers.add((long) x.book(0, 0));
        answers.add((long) x.man(0, 0, 0, 0));
        answers.add((long) x.pass(1));
        answers.add((long) x.undo());
        for (int man = 0; man < 6; man++) {
            answers.add((long) x.of(man, 4));
            answers.add((long) x.of(man, 3));
        }
        for (int i = 0; i < 7; i++) {
            answers.add((long) x.count(i));
        }
        return answers;
    }

    private static void changesNothing(How how, String name, Call call) {
        StarchedCollars x = made(how);
        long first = call.on(x);
        List<Long> got = tail(x);
        CHECK.isTrue(name + " changes nothing when " + how, got.equals(tail(made(how))));
        StarchedCollars y = made(how);
        call.on(y);
        CHECK.due(name + " again, when " + how, call.on(y), first);
    }

    private static void refused(How how, long want, String name, Call call) {
        CHECK.due(name + " when " + how, call.on(made(how)), want);
        changesNothing(how, name, call);
    }

    // ---- refused in each state

    /** No MAN has such a number, whatever there is. */
    private static void noSuchMan(How how) {
        CHECK.says("NONE there is no such MAN. They change nothing");
        int[] men = {MIN, -2, 6, 7, MAX};
        for (int man : men) {
            refused(how, NONE_OF, "of(" + man + ", 0)", x -> x.of(man, 0));
            refused(how, NONE, "row(" + man + ", 0, 5)", x -> x.row(man, 0, 5));
            refused(how, NONE, "row(" + man + ", 4, 10)", x -> x.row(man, 4, 10));
            refused(how, NONE, "set(" + man + ", 2, 5)", x -> x.set(man, 2, 5));
            refused(how, NONE, "set(" + man + ", 2, 100)", x -> x.set(man, 2, 100));
            refused(how, NONE, "stud(" + man + ", true)", x -> x.stud(man, true));
            refused(how, NONE, "away(" + man + ", true)", x -> x.away(man, true));
            refused(how, NONE, "apart(" + man + ", 0)", x -> x.apart(man, 0));
            refused(how, NONE, "apart(0, " + man + ")", x -> x.apart(0, man));
            refused(how, NONE, "apart(" + man + ", " + man + ")", x -> x.apart(man, man));
            refused(how, NONE, "when(" + man + ")", x -> x.when(man));
            refused(how, NONE, "walk(" + man + ")", x -> x.walk(man));
            refused(how, NONE, "see(" + man + ", 0, 0)", x -> x.see(man, 0, 0));
            refused(how, NONE, "see(" + man + ", 21, 100)", x -> x.see(man, 21, 100));
            refused(how, NONE, "highs(" + man + ", 0)", x -> x.highs(man, 0));
            refused(how, NONE, "firm(" + man + ", 0)", x -> x.firm(man, 0));
            refused(how, NO, "odds(" + man + ", 0, 0)", x -> x.odds(man, 0, 0));
            refused(how, NONE, "plan(3, " + man + ")", x -> x.plan(3, man));
            refused(how, NONE, "book(" + man + ", 5)", x -> x.book(man, 5));
            refused(how, NONE, "book(" + man + ", 256)", x -> x.book(man, 256));
            refused(how, NONE, "as(" + man + ", 0)", x -> x.as(man, 0));
        }
    }

    private static void noSuchWhat(How how) {
        CHECK.says("NONE there is no such KIND, PLACE, what, part, k, i. They change nothing");
        int[] whats = {MIN, -2, 30, MAX};
        for (int what : whats) {
            refused(how, NONE, "man(" + what + ", 0, 0, 0)", x -> x.man(what, 0, 0, 0));
            refused(how, NONE, "man(" + what + ", 10, 0, 256)", x -> x.man(what, 10, 0, 256));
            refused(how, NONE, "man(0, 0, " + what + ", 0)", x -> x.man(0, 0, what, 0));
            refused(how, NONE_OF, "of(0, " + what + ")", x -> x.of(0, what));
            refused(how, NONE, "row(0, " + what + ", 5)", x -> x.row(0, what, 5));
            refused(how, NONE, "set(0, " + what + ", 5)", x -> x.set(0, what, 5));
            refused(how, NONE, "told(" + what + ")", x -> x.told(what));
            refused(how, NONE, "on(5, " + what + ")", x -> x.on(5, what));
            refused(how, NONE, "on(61, " + what + ")", x -> x.on(61, what));
            refused(how, NONE, "walk(" + what + ")", x -> x.walk(what));
            refused(how, NONE, "highs(0, " + what + ")", x -> x.highs(0, what));
            refused(how, NONE, "firm(0, " + what + ")", x -> x.firm(0, what));
            refused(how, NO, "odds(0, 0, " + what + ")", x -> x.odds(0, 0, what));
            refused(how, NO, "mean(" + what + ")", x -> x.mean(what));
            refused(how, NONE, "plan(" + what + ", 0)", x -> x.plan(what, 0));
            refused(how, NONE, "done(" + what + ")", x -> x.done(what));
            refused(how, NONE, "trace(" + what + ")", x -> x.trace(what));
            refused(how, NONE, "as(0, " + what + ")", x -> x.as(0, what));
            refused(how, NONE, "count(" + what + ")", x -> x.count(what));
        }
    }

    private static void badWithoutMen(How how) {
        CHECK.says("BAD a number is not as told. They change nothing");
        int[] bad = {MIN, -1, 256, MAX};
        for (int n : bad) {
            refused(how, BAD, "feed(" + n + ")", x -> x.feed(n));
            refused(how, BAD, "man(0, " + n + ", 0, 0)", x -> x.man(0, n, 0, 0));
            refused(how, BAD, "man(0, 0, 0, " + n + ")", x -> x.man(0, 0, 0, n));
            refused(how, BAD, "pass(" + n + ")", x -> x.pass(n));
            refused(how, BAD, "on(" + n + ", 0)", x -> x.on(n, 0));
            refused(how, BAD, "table(" + n + ")", x -> x.table(n));
            refused(how, BAD, "wash(" + n + ")", x -> x.wash(n));
        }
        refused(how, BAD, "feed(128)", x -> x.feed(128));
        refused(how, BAD, "man(0, 10, 0, 0)", x -> x.man(0, 10, 0, 0));
        refused(how, BAD, "pass(61)", x -> x.pass(61));
        refused(how, BAD, "on(61, 0)", x -> x.on(61, 0));
        refused(how, BAD, "table(9)", x -> x.table(9));
        refused(how, BAD, "wash(7)", x -> x.wash(7));
    }

    private static void badOfMen(How how) {
        CHECK.says("BAD a number is not as told. They change nothing");
        int[] bad = {MIN, -1, 256, MAX};
        for (int n : bad) {
            refused(how, BAD, "row(0, 1, " + n + ")", x -> x.row(0, 1, n));
            refused(how, BAD, "row(1, 1, " + n + ")", x -> x.row(1, 1, n));
            refused(how, BAD, "set(0, 0, " + n + ")", x -> x.set(0, 0, n));
            refused(how, BAD, "set(0, 1, " + n + ")", x -> x.set(0, 1, n));
            refused(how, BAD, "set(0, 2, " + n + ")", x -> x.set(0, 2, n));
            refused(how, BAD, "on(" + n + ", 10)", x -> x.on(n, 10));
            refused(how, BAD, "on(" + n + ", 21)", x -> x.on(n, 21));
            refused(how, BAD, "see(0, " + n + ", 5)", x -> x.see(0, n, 5));
            refused(how, BAD, "see(0, 1, " + n + ")", x -> x.see(0, 1, n));
            refused(how, NO, "odds(0, " + n + ", 0)", x -> x.odds(0, n, 0));
            refused(how, BAD, "book(0, " + n + ")", x -> x.book(0, n));
        }
        refused(how, BAD, "row(0, 1, 10)", x -> x.row(0, 1, 10));
        refused(how, BAD, "set(0, 0, 10)", x -> x.set(0, 0, 10));
        refused(how, BAD, "set(0, 2, 100)", x -> x.set(0, 2, 100));
        refused(how, BAD, "see(0, 21, 5)", x -> x.see(0, 21, 5));
        refused(how, BAD, "see(0, 1, 100)", x -> x.see(0, 1, 100));
        refused(how, NO, "odds(0, 61, 0)", x -> x.odds(0, 61, 0));
        refused(how, NO, "odds(0, 61, 1)", x -> x.odds(0, 61, 1));
        refused(how, BAD, "apart(0, 0)", x -> x.apart(0, 0));
        refused(how, BAD, "apart(2, 2)", x -> x.apart(2, 2));
        refused(how, STATE, "row(1, 1, 5)", x -> x.row(1, 1, 5));
        refused(how, STATE, "row(2, 3, 0)", x -> x.row(2, 3, 0));
    }

    // ---- refused in one state

    private static void refusedWhenEmpty() {
        CHECK.says("NONE, of no MEN; STATE: no IMAGE; NO: there are none. They change nothing");
        How how = How.EMPTY;
        refused(how, NONE_OF, "of(0, 0)", x -> x.of(0, 0));
        refused(how, NONE, "row(0, 0, 0)", x -> x.row(0, 0, 0));
        refused(how, NONE, "set(0, 0, 0)", x -> x.set(0, 0, 0));
        refused(how, NONE, "stud(0, true)", x -> x.stud(0, true));
        refused(how, NONE, "away(0, true)", x -> x.away(0, true));
        refused(how, NONE, "apart(0, 1)", x -> x.apart(0, 1));
        refused(how, NONE, "on(0, 10)", x -> x.on(0, 10));
        refused(how, NONE, "walk(0)", x -> x.walk(0));
        refused(how, NONE, "see(0, 0, 0)", x -> x.see(0, 0, 0));
        refused(how, NONE, "plan(1, 0)", x -> x.plan(1, 0));
        refused(how, NONE, "book(0, 0)", x -> x.book(0, 0));
        refused(how, NO, "mean(0)", x -> x.mean(0));
        refused(how, STATE, "undo()", x -> x.undo());
    }

    private static void refusedWhenFull() {
        CHECK.says("FULL. They change nothing");
        How how = How.FULL_UP;
        refused(how, FULL, "feed(0)", x -> x.feed(0));
        refused(how, FULL, "feed(127)", x -> x.feed(127));
        refused(how, FULL, "town()", x -> x.town());
        refused(how, FULL, "man(0, 0, 0, 0)", x -> x.man(0, 0, 0, 0));
        refused(how, FULL, "man(6, 9, 9, 255)", x -> x.man(6, 9, 9, 255));
        refused(how, FULL, "see(0, 0, 0)", x -> x.see(0, 0, 0));
        refused(how, FULL, "see(5, 20, 99)", x -> x.see(5, 20, 99));
        refused(how, FULL, "plan(0, 9)", x -> x.plan(0, 9));
        refused(how, FULL, "plan(3, 5)", x -> x.plan(3, 5));
        refused(how, FULL, "book(0, 0)", x -> x.book(0, 0));
        refused(how, FULL, "book(5, 255)", x -> x.book(5, 255));
    }

    private static void refusedWhenLate() {
        CHECK.says("STATE: it would be above 9999. They change nothing");
        How how = How.LATE;
        refused(how, STATE, "pass(1)", x -> x.pass(1));
        refused(how, STATE, "pass(60)", x -> x.pass(60));
        refused(how, STATE, "undo()", x -> x.undo());
        refused(how, NONE_OF, "of(3, 0)", x -> x.of(3, 0));
        refused(how, NONE, "walk(3)", x -> x.walk(3));
        refused(how, NONE, "on(0, 13)", x -> x.on(0, 13));
    }

    // ---- asked

    private static void asked(How how) {
        CHECK.says("All that follows is asked, and changes nothing");
        for (int i = 0; i <= 60; i += 20) {
            int n = i;
            changesNothing(how, "on(" + n + ", 0)", x -> x.on(n, 0));
            changesNothing(how, "on(" + n + ", 10)", x -> x.on(n, 10));
            changesNothing(how, "on(" + n + ", 20)", x -> x.on(n, 20));
            changesNothing(how, "odds(0, " + n + ", 0)", x -> x.odds(0, n, 0));
        }
        for (int i = 0; i <= 9; i++) {
            int n = i;
            changesNothing(how, "of(0, " + n + ")", x -> x.of(0, n));
            changesNothing(how, "told(" + n + ")", x -> x.told(n));
            changesNothing(how, "when(" + n + ")", x -> x.when(n));
            changesNothing(how, "walk(" + (n - 1) + ")", x -> x.walk(n - 1));
            changesNothing(how, "table(" + n + ")", x -> x.table(n));
            changesNothing(how, "wash(" + n + ")", x -> x.wash(n));
            changesNothing(how, "as(0, " + n + ")", x -> x.as(0, n));
            changesNothing(how, "count(" + n + ")", x -> x.count(n));
            changesNothing(how, "trace(" + n + ")", x -> x.trace(n));
        }
        for (int i = 0; i <= 1; i++) {
            int what = i;
            changesNothing(how, "highs(0, " + what + ")", x -> x.highs(0, what));
            changesNothing(how, "firm(0, " + what + ")", x -> x.firm(0, what));
            changesNothing(how, "mean(" + what + ")", x -> x.mean(what));
            changesNothing(how, "done(" + what + ")", x -> x.done(what));
        }
        changesNothing(how, "apart(0, 1)", x -> x.apart(0, 1));
        changesNothing(how, "looked()", x -> x.looked());
        changesNothing(how, "pass(0)", x -> x.pass(0));
    }

    private static void actsChangeTheTraceAlone() {
        CHECK.says("0, and no TRACE then: no such MAN, act");
        int[] men = {MIN, -1, 3, MAX};
        for (int man : men) {
            StarchedCollars x = made(How.ORDINARY);
            StarchedCollars y = made(How.ORDINARY);
            CHECK.due("act(" + man + ", 0, 5)", x.act(man, 0, 5), 0);
            CHECK.due("act(0, " + (man < 0 ? man : 3) + ", 5)", y.act(0, man < 0 ? man : 3, 5), 0);
            CHECK.isTrue("both alike", tail(x).equals(tail(y)));
            StarchedCollars z = made(How.ORDINARY);
            z.act(man, 0, 5);
            z.act(0, 2, 9);
            CHECK.isTrue("nothing but THE TRACE", tail(z).equals(tail(made(How.ORDINARY))));
        }
    }

    public static void main(String[] args) {
        for (How how : How.values()) {
            noSuchMan(how);
            noSuchWhat(how);
            badWithoutMen(how);
            if (how != How.EMPTY) {
                badOfMen(how);
            }
            asked(how);
        }
        refusedWhenEmpty();
        refusedWhenFull();
        refusedWhenLate();
        actsChangeTheTraceAlone();
        CHECK.end();
    }
}
