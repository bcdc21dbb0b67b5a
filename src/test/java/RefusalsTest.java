import java.util.ArrayList;
import java.util.List;

/** Any arguments in any state: no call throws, each answers as the model, and a refused one changes nothing. */
public final class RefusalsTest {
    private static final Check CHECK = new Check("RefusalsTest");
    private static final int[] ODD = {Integer.MIN_VALUE, -1000, -20, -10, -2, -1, 0, 1, 5, 6, 9, 10, 15, 25, 61, 100,
        128, 256, 10000, Integer.MAX_VALUE};
    private static final int[] FEWER = {Integer.MIN_VALUE, -2, -1, 0, 3, 5, 6, 10, 21, 61, 100, 256, Integer.MAX_VALUE};

    /** The calls of two prints: an object is used for 512 calls at most. */
    private static final int PRINTS = 2 * 83;

    private StarchedCollars x;
    private Model m;
    private int calls;
    private final int state;

    private RefusalsTest(int state) {
        this.state = state;
        make();
    }

    private void make() {
        x = new StarchedCollars();
        m = new Model();
        calls = 0;
        if (state == 0) {
            return;
        }
        calls = 200;
        town(state == 1 ? "burst 40;starch 5 !w=3&k<4|h>2" : "burst 99");
        for (int i = 0; i < (state == 1 ? 4 : 6); i++) {
            CHECK.due("man", x.man(i + 1, 3 + i, i, 40 * i), m.man(i + 1, 3 + i, i, 40 * i));
        }
        if (state == 2) {
            fill();
        }
        CHECK.due("pass", x.pass(7), m.pass(7));
        CHECK.due("image", x.image(), m.image());
    }

    private void fill() {
        for (int i = 0; i < 4; i++) {
            town("burst 99");
        }
        for (int i = 0; i < 100; i++) {
            CHECK.due("feed", x.feed(' '), m.feed(' '));
        }
        for (int i = 0; i < 8; i++) {
            CHECK.due("see", x.see(0, 1, 9), m.see(0, 1, 9));
            CHECK.due("plan", x.plan(0, 0), m.plan(0, 0));
            CHECK.due("book", x.book(0, 0), m.book(0, 0));
        }
    }

    private void town(String s) {
        for (int i = 0; i < s.length(); i++) {
            CHECK.due("feed", x.feed(s.charAt(i)), m.feed(s.charAt(i)));
        }
        CHECK.due("town", x.town(), m.town());
    }

    private static long one(StarchedCollars x, int call, int a, int b, int c) {
        switch (call) {
            case 0: return x.feed(a);
            case 1: return x.of(a, b);
            case 2: return x.row(a, b, c);
            case 3: return x.set(a, b, c);
            case 4: return x.stud(a, b > 0);
            case 5: return x.away(a, b > 0);
            case 6: return x.apart(a, b);
            case 7: return x.told(a);
            case 8: return x.pass(a);
            case 9: return x.on(a, b);
            case 10: return x.when(a);
            case 11: return x.walk(a);
            case 12: return x.table(a);
            case 13: return x.wash(a);
            case 14: return x.see(a, b, c);
            case 15: return x.highs(a, b);
            case 16: return x.firm(a, b);
            case 17: return x.odds(a, b, c);
            case 18: return x.mean(a);
            case 19: return x.plan(a, b);
            case 20: return x.done(a);
            case 21: return x.book(a, b);
            case 22: return x.act(a, b, c);
            case 23: return x.trace(a);
            case 24: return x.as(a, b);
            case 25: return x.count(a);
            case 26: return x.man(a, 1, b, c);
            case 27: return x.man(a, b, 1, c);
            default: return x.man(1, a, b, c);
        }
    }

    private static long one(Model x, int call, int a, int b, int c) {
        switch (call) {
            case 0: return x.feed(a);
            case 1: return x.of(a, b);
            case 2: return x.row(a, b, c);
            case 3: return x.set(a, b, c);
            case 4: return x.stud(a, b > 0);
            case 5: return x.away(a, b > 0);
            case 6: return x.apart(a, b);
            case 7: return x.told(a);
            case 8: return x.pass(a);
            case 9: return x.on(a, b);
            case 10: return x.when(a);
            case 11: return x.walk(a);
            case 12: return x.table(a);
            case 13: return x.wash(a);
            case 14: return x.see(a, b, c);
            case 15: return x.highs(a, b);
            case 16: return x.firm(a, b);
            case 17: return x.odds(a, b, c);
            case 18: return x.mean(a);
            case 19: return x.plan(a, b);
            case 20: return x.done(a);
            case 21: return x.book(a, b);
            case 22: return x.act(a, b, c);
            case 23: return x.trace(a);
            case 24: return x.as(a, b);
            case 25: return x.count(a);
            case 26: return x.man(a, 1, b, c);
            case 27: return x.man(a, b, 1, c);
            default: return x.man(1, a, b, c);
        }
    }

    private static int arguments(int call) {
        switch (call) {
            case 1: case 4: case 5: case 6: case 9: case 15: case 16: case 19: case 21: case 24: return 2;
            case 2: case 3: case 14: case 17: case 22: case 26: case 27: case 28: return 3;
            default: return 1;
        }
    }

    /** All that can be asked without a change, but walks, tables and the like, which hang on this. */
    private static List<Long> print(StarchedCollars x) {
        List<Long> print = new ArrayList<>();
        for (int i = 0; i < 7; i++) {
            print.add((long) x.count(i));
            print.add((long) x.told(i));
            print.add((long) x.trace(i));
        }
        for (int man = 0; man < 6; man++) {
            for (int what = 0; what < 10; what++) {
                print.add((long) x.of(man, what));
            }
        }
        print.add((long) x.looked());
        print.add((long) x.done(1));
        return print;
    }

    private static boolean isRefused(int call, long answer) {
        boolean isBelow = answer >= -4 && answer < 0 || answer == Long.MIN_VALUE || answer == -999999;
        return isBelow && call != 22;
    }

    private void tryCall(int call, int a, int b, int c) {
        if (calls + PRINTS + 1 > 512) {
            make();
        }
        calls += PRINTS + 1;
        List<Long> before = print(x);
        long got = one(x, call, a, b, c);
        CHECK.due("call " + call + " of " + a + ", " + b + ", " + c + " in " + state, got, one(m, call, a, b, c));
        if (isRefused(call, got)) {
            boolean isSame = before.equals(print(x));
            CHECK.isTrue("call " + call + " of " + a + ", " + b + ", " + c + " changes nothing", isSame);
        }
    }

    private void all() {
        for (int call = 0; call <= 28; call++) {
            make();
            int arguments = arguments(call);
            for (int a : arguments == 3 ? FEWER : ODD) {
                for (int b : arguments == 1 ? new int[] {0} : arguments == 3 ? FEWER : ODD) {
                    for (int c : arguments < 3 ? new int[] {0} : FEWER) {
                        tryCall(call, a, b, c);
                    }
                }
            }
        }
    }

    public static void main(String[] args) {
        for (int state = 0; state < 3; state++) {
            new RefusalsTest(state).all();
        }
        CHECK.end();
    }
}
