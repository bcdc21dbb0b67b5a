/** Objects that many tests begin with. */
final class Made {
    private Made() {
    }

    static void feed(StarchedCollars x, String text) {
        for (int i = 0; i < text.length(); i++) {
            x.feed(text.charAt(i));
        }
    }

    static int town(StarchedCollars x, String text) {
        feed(x, text);
        return x.town();
    }

    static StarchedCollars inTown(String text) {
        StarchedCollars x = new StarchedCollars();
        town(x, text);
        return x;
    }

    /** One of that KIND with v, at PLACE 0, without ARTICLES. */
    static StarchedCollars one(String text, int kind, int v) {
        StarchedCollars x = text.isEmpty() ? new StarchedCollars() : inTown(text);
        x.man(kind, v, 0, 0);
        return x;
    }

    /** MEN of KIND 0, v 0 and PLACE 0 with these CREEDS. */
    static StarchedCollars creeds(int... creeds) {
        StarchedCollars x = new StarchedCollars();
        for (int creed : creeds) {
            x.man(0, 0, 0, creed);
        }
        return x;
    }

    /** WEEK 9999 takes 167 calls. */
    static void toLastWeek(StarchedCollars x) {
        for (int i = 0; i < 166; i++) {
            x.pass(60);
        }
        x.pass(39);
    }

    static String times(int n, String text) {
        StringBuilder s = new StringBuilder();
        for (int i = 0; i < n; i++) {
            s.append(text);
        }
        return s.toString();
    }
}
