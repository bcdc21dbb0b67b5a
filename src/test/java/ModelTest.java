/** Runs of many calls, the same on the program and on the model; the numbers come from a fixed row, not from chance. */
public final class ModelTest {
    private static final int RUNS = 600;
    /** An object is used for 512 calls at most: these, a text, and a last look at all. */
    private static final int CALLS = 300;
    private static long state;

    private ModelTest() {
    }

    private static int below(int n) {
        state = state * 6364136223846793005L + 1442695040888963407L;
        return (int) ((state >>> 33) % n);
    }

    /** Mostly 0 .. most, now and then just beyond it, or far. */
    private static int near(int most) {
        switch (below(24)) {
            case 0: return -1;
            case 1: return most + 1;
            case 2: return below(2) == 0 ? Integer.MIN_VALUE : Integer.MAX_VALUE;
            default: return below(most + 1);
        }
    }

    private static String number() {
        return Integer.toString(below(3) == 0 ? below(100) : below(10));
    }

    private static String one(int open) {
        if (below(3) == 0 && open < 5) {
            return "!" + one(open + 1);
        }
        if (below(4) == 0 && open < 5) {
            return "(" + either(open + 1) + ")";
        }
        return "" + "pkvchw".charAt(below(6)) + "<=>".charAt(below(3)) + number();
    }

    private static String either(int open) {
        StringBuilder s = new StringBuilder(one(open));
        while (below(3) == 0) {
            s.append(below(2) == 0 ? '&' : '|').append(one(open));
        }
        return s.toString();
    }

    private static String clause() {
        switch (below(5)) {
            case 0: return "burst " + (below(3) == 0 ? number() : Integer.toString(30 + below(70)));
            case 1:
            case 2: return "soften " + number() + " " + either(0);
            default: return "starch " + number() + " " + either(0);
        }
    }

    private static String text() {
        StringBuilder s = new StringBuilder(clause());
        while (below(3) != 0 && s.length() < 70) {
            s.append(';').append(clause());
        }
        if (below(3) == 0) {
            int at = below(s.length());
            if (below(2) == 0) {
                s.deleteCharAt(at);
            } else {
                s.setCharAt(at, "burstachofen 0123456789;!&|()<=>pkvhw\0\177".charAt(below(39)));
            }
        }
        return s.toString();
    }

    private static void feedText(StarchedCollars x, Model m, Check check, String s, int room) {
        for (int i = 0; i < s.length() && i < room; i++) {
            check.due("feed", x.feed(s.charAt(i)), m.feed(s.charAt(i)));
        }
    }

    private static void call(StarchedCollars x, Model m, Check check) {
        int a = near(5);
        int b = near(9);
        int c = near(99);
        switch (below(40)) {
            case 0:
                int sign = near(127);
                check.due("feed", x.feed(sign), m.feed(sign));
                break;
            case 1: check.due("town", x.town(), m.town()); break;
            case 2:
            case 3:
                int kind = near(6);
                int creed = near(255);
                check.due("man", x.man(kind, b, c % 10, creed), m.man(kind, b, c % 10, creed));
                break;
            case 4:
            case 5:
            case 6:
            case 7: check.due("of", x.of(a, b), m.of(a, b)); break;
            case 8:
                int k = near(3);
                check.due("row", x.row(a, k, b), m.row(a, k, b));
                break;
            case 9:
            case 10:
                int what = near(2);
                int n = near(new int[] {9, 255, 99}[Math.floorMod(what, 3)]);
                check.due("set", x.set(a, what, n), m.set(a, what, n));
                break;
            case 11:
                boolean gone = below(3) == 0;
                check.due("stud", x.stud(a, gone), m.stud(a, gone));
                break;
            case 12:
                boolean away = below(3) == 0;
                check.due("away", x.away(a, away), m.away(a, away));
                break;
            case 13:
                int other = near(5);
                check.due("apart", x.apart(a, other), m.apart(a, other));
                break;
            case 14: check.due("told", x.told(b % 6), m.told(b % 6)); break;
            case 15:
                int weeks = below(3) == 0 ? near(60) : below(5);
                check.due("pass", x.pass(weeks), m.pass(weeks));
                break;
            default: callLater(x, m, check, a, b, c);
        }
    }

    private static void callLater(StarchedCollars x, Model m, Check check, int a, int b, int c) {
        int n = near(60);
        int part = near(1);
        switch (below(26)) {
            case 0:
            case 1: check.due("on 0", x.on(n, 0), m.on(n, 0)); break;
            case 2: check.due("on 10", x.on(n, 10 + a), m.on(n, 10 + a)); break;
            case 3: check.due("on 20", x.on(n, 20 + a), m.on(n, 20 + a)); break;
            case 4: check.due("on", x.on(n, c), m.on(n, c)); break;
            case 5: check.due("when", x.when(a), m.when(a)); break;
            case 6:
            case 7: check.due("walk", x.walk(a - 1), m.walk(a - 1)); break;
            case 8: check.due("table", x.table(b), m.table(b)); break;
            case 9: check.due("wash", x.wash(a + 1), m.wash(a + 1)); break;
            case 10:
                int later = near(20);
                // a height that can be so, most times
                int high = below(4) == 0 ? c : Math.max(0, m.on(later, 10 + a));
                check.due("see", x.see(a, later, high), m.see(a, later, high));
                break;
            case 11: check.due("highs", x.highs(a, part), m.highs(a, part)); break;
            case 12: check.due("firm", x.firm(a, part), m.firm(a, part)); break;
            case 13:
            case 14: check.due("odds", x.odds(a, n, part), m.odds(a, n, part)); break;
            case 15: check.due("mean", x.mean(part), m.mean(part)); break;
            case 16:
            case 17:
                int what = below(2) == 0 ? 0 : near(3);
                check.due("plan", x.plan(what, a), m.plan(what, a));
                break;
            case 18: check.due("done", x.done(part), m.done(part)); break;
            case 19:
                int creed = below(5) == 0 ? near(255) : m.of(a, 3);
                check.due("book", x.book(a, creed), m.book(a, creed));
                break;
            case 20: check.due("looked", x.looked(), m.looked()); break;
            case 21:
                int act = near(2);
                int with = below(2) == 0 ? c : below(Integer.MAX_VALUE) * 3;
                check.due("act", x.act(a, act, with), m.act(a, act, with));
                for (int i = -1; i < 8; i++) {
                    check.due("trace", x.trace(i), m.trace(i));
                }
                break;
            case 22: check.due("as", x.as(a, b), m.as(a, b)); break;
            case 23:
                if (below(2) == 0) {
                    check.due("image", x.image(), m.image());
                }
                break;
            case 24:
                if (below(2) == 0) {
                    check.due("undo", x.undo(), m.undo());
                }
                break;
            default: check.due("count", x.count(b), m.count(b));
        }
    }

    private static void lookAtAll(StarchedCollars x, Model m, Check check) {
        for (int i = -1; i < 8; i++) {
            check.due("count", x.count(i), m.count(i));
            check.due("told", x.told(i), m.told(i));
        }
        for (int man = 0; man < 6; man++) {
            for (int what = 0; what < 10; what++) {
                check.due("of", x.of(man, what), m.of(man, what));
            }
        }
    }

    private static void run(int number, Check check) {
        state = number * 7919L + 17;
        StarchedCollars x = new StarchedCollars();
        Model m = new Model();
        int men = below(7);
        for (int i = 0; i < men; i++) {
            int kind = below(7);
            int v = below(10);
            int place = below(10);
            int creed = below(256);
            check.due("man", x.man(kind, v, place, creed), m.man(kind, v, place, creed));
        }
        int from = check.looks();
        while (check.looks() - from < CALLS) {
            if (below(60) == 0) {
                feedText(x, m, check, text(), 110);
                check.due("town", x.town(), m.town());
            } else {
                call(x, m, check);
            }
            if (check.wrongs() > 0) {
                System.out.println("in run " + number + ", answer " + (check.looks() - from));
                check.end();
            }
        }
        lookAtAll(x, m, check);
    }

    /** Texts alone, each on a new object. */
    private static void texts(Check check) {
        state = 5;
        for (int i = 0; i < 20000; i++) {
            String s = text();
            StarchedCollars x = new StarchedCollars();
            Model m = new Model();
            feedText(x, m, check, s, 100);
            check.due("town of " + s, x.town(), m.town());
        }
    }

    public static void main(String[] args) {
        Check check = new Check("ModelTest");
        texts(check);
        for (int run = 0; run < RUNS; run++) {
            run(run, check);
        }
        check.end();
    }
}
