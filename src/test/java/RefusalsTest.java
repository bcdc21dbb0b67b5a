import java.util.ArrayList;
import java.util.List;

/** Any arguments in any state: no call throws, each answers as the model, and a refused one changes nothing. */
public final class RefusalsTest {
    private static final Check CHECK = new Check("RefusalsTest");
    private static final int[] ODD = {Integer.MIN_VALUE, -1000, -20, -10, -2, -1, 0, 1, 5, 6, 9, 10, 15, 25, 61, 100,
        128, 256, 10000, Integer.MAX_VALUE};
    private static final int[] FEWER = {Integer.MIN_VALUE, -2, -1, 0, 3, 5, 6, 10, 21, 61, 100, 256, Integer.MAX_VALUE};

    /** The calls of two prints: an object is used for 512 calls at most. */
    private static final int PRINTS = 2 * 83;

    private StarchedCollars x;
    private Model m;
    private int calls;
    private final int state;

    private RefusalsTest(int state) {
        this.state = state;
        make();
    }

    private void make() {
        x = new StarchedCollars();
        m = new Model();
        calls = 0;
        if (state == 0) {
            return;
        }
        calls = 200;
        town(state == 1 ? "burst 40;starch 5 !w=3&k<4|h>2" : "burst 99");
        for (int i = 0; i < (state == 1 ? 4 : 6); i++) {
            CHECK.due("man", x.man(i + 1, 3 + i, i, 40 * i), m.man(i + 1, 3 + i, i, 40 * i));
        }
        if (state == 2) {
            fill();
        }
        CHECK.due("pass", x.pass(7), m.pass(7));
        CHECK.due("image", x.image(), m.image());
    }

    private void fill() {
        for (int i = 0; i < 4; i++) {
            town("burst 99");
        }
        for (int i = 0; i < 100; i++) {
            CHECK.due("feed", x.feed(' '), m.feed(' '));
        }
        for (int i = 0; i < 8; i++) {
            CHECK.due("see", x.see(0, 1, 9), m.see(0, 1, 9));
            CHECK.due("plan", x.plan(0, 0), m.plan(0, 0));
            CHECK.due("book", x.book(0, 0), m.book(0, 0));
        }
    }

    private void town(String s) {
        for (int i = 0; i < s.length(); i++) {
            CHECK.due("feed", x.feed(s.charAt(i)), m.feed(s.charAt(i)));
        }
        CHECK.due("town", x.town(), m.town());
    }

    /** Calls by name, with the arguments that are tried: a, b, c, a truth by b (t), or 1. */
    private static final String[][] CALLS = {
        {"feed", "a"}, {"of", "ab"}, {"row", "abc"}, {"set", "abc"}, {"stud", "at"}, {"away", "at"}, {"apart", "ab"},
        {"told", "a"}, {"pass", "a"}, {"on", "ab"}, {"when", "a"}, {"walk", "a"}, {"table", "a"}, {"wash", "a"},
        {"see", "abc"}, {"highs", "ab"}, {"firm", "ab"}, {"odds", "abc"}, {"mean", "a"}, {"plan", "ab"}, {"done", "a"},
        {"book", "ab"}, {"act", "abc"}, {"trace", "a"}, {"as", "ab"}, {"count", "a"}, {"man", "a1bc"},
        {"man", "ab1c"}, {"man", "1abc"}};

    /** The same call for the program and for the model. */
    private static long one(Object x, String[] call, int a, int b, int c) throws ReflectiveOperationException {
        Class<?>[] types = new Class<?>[call[1].length()];
        Object[] with = new Object[types.length];
        for (int i = 0; i < types.length; i++) {
            char which = call[1].charAt(i);
            types[i] = which == 't' ? boolean.class : int.class;
            if (which == 't') {
                with[i] = b > 0;
            } else {
                with[i] = which == 'a' ? a : which == 'b' ? b : which == 'c' ? c : 1;
            }
        }
        return ((Number) x.getClass().getDeclaredMethod(call[0], types).invoke(x, with)).longValue();
    }

    private static int arguments(String[] call) {
        return call[1].contains("c") ? 3 : call[1].length();
    }

    /** All that can be asked without a change, but walks, tables and the like, which hang on this. */
    private static List<Long> print(StarchedCollars x) {
        List<Long> print = new ArrayList<>();
        for (int i = 0; i < 7; i++) {
            print.add((long) x.count(i));
            print.add((long) x.told(i));
            print.add((long) x.trace(i));
        }
        for (int man = 0; man < 6; man++) {
            for (int what = 0; what < 10; what++) {
                print.add((long) x.of(man, what));
            }
        }
        print.add((long) x.looked());
        print.add((long) x.done(1));
        return print;
    }

    private static boolean isRefused(String[] call, long answer) {
        boolean isBelow = answer >= -4 && answer < 0 || answer == Long.MIN_VALUE || answer == -999999;
        return isBelow && !call[0].equals("act");
    }

    private void tryCall(String[] call, int a, int b, int c) throws ReflectiveOperationException {
        if (calls + PRINTS + 1 > 512) {
            make();
        }
        calls += PRINTS + 1;
        List<Long> before = print(x);
        long got = one(x, call, a, b, c);
        CHECK.due(call[0] + " of " + a + ", " + b + ", " + c + " in " + state, got, one(m, call, a, b, c));
        if (isRefused(call, got)) {
            boolean isSame = before.equals(print(x));
            CHECK.isTrue(call[0] + " of " + a + ", " + b + ", " + c + " changes nothing", isSame);
        }
    }

    private void all() throws ReflectiveOperationException {
        for (String[] call : CALLS) {
            make();
            int arguments = arguments(call);
            for (int a : arguments == 3 ? FEWER : ODD) {
                for (int b : arguments == 1 ? new int[] {0} : arguments == 3 ? FEWER : ODD) {
                    for (int c : arguments < 3 ? new int[] {0} : FEWER) {
                        tryCall(call, a, b, c);
                    }
                }
            }
        }
    }

    public static void main(String[] args) throws ReflectiveOperationException {
        for (int state = 0; state < 3; state++) {
            new RefusalsTest(state).all();
        }
        CHECK.end();
    }
}
