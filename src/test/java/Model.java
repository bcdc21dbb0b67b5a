import java.util.ArrayList;
import java.util.List;
import java.util.regex.Pattern;

/**
 * The document said once more, in another way than the program says it: texts are split and not read from left to
 * right, all men live at once, and whatever is sought is sought among all there is.
 */
final class Model {
    static final int NONE = -1, BAD = -2, STATE = -3, FULL = -4;

    /** The bodies as the Java language itself finds them. */
    static class Kind {
        final Model model;
        int p, v, place, creed, height;
        boolean gone, away;
        int[] row = new int[4];

        Kind(Model model) {
            this.model = model;
        }

        void ran(int body) {
            model.trace.add(body);
        }

        int nods(int x) {
            ran(1);
            return x + p;
        }

        int preaches(int x) {
            ran(2);
            return nods(x) - v;
        }

        int turns(int x) {
            ran(3);
            return preaches(x) * 2;
        }

        int kind() {
            return 0;
        }

        int rise() {
            return model.sum(this);
        }
    }

    static class Deacon extends Kind {
        Deacon(Model model) {
            super(model);
        }

        @Override int nods(int x) {
            ran(11);
            return super.nods(x * 3);
        }

        @Override int kind() {
            return 1;
        }

        @Override int rise() {
            return model.sum(this) + v;
        }
    }

    static class Unitarian extends Kind {
        Unitarian(Model model) {
            super(model);
        }

        @Override int preaches(int x) {
            ran(21);
            return -super.preaches(x);
        }

        @Override int kind() {
            return 2;
        }

        @Override int rise() {
            int sum = model.sum(this);
            return sum < 0 ? -(-sum / 2) : sum / 2;
        }
    }

    static class Independent extends Kind {
        Independent(Model model) {
            super(model);
        }

        @Override int turns(int x) {
            ran(31);
            return super.turns(x) ^ 7;
        }

        @Override int kind() {
            return 3;
        }

        @Override int rise() {
            return model.sum(this) + articles(creed);
        }
    }

    static final class Elder extends Deacon {
        Elder(Model model) {
            super(model);
        }

        @Override int turns(int x) {
            ran(41);
            return super.turns(x - 1) + nods(2);
        }

        @Override int kind() {
            return 4;
        }

        @Override int rise() {
            return height >= 60 ? 0 : super.rise();
        }
    }

    static final class Lapsed extends Unitarian {
        Lapsed(Model model) {
            super(model);
        }

        @Override int nods(int x) {
            ran(51);
            return super.nods(x) ^ p;
        }

        @Override int kind() {
            return 5;
        }

        @Override int rise() {
            return super.rise() - v;
        }
    }

    static final class Told extends Independent {
        Told(Model model) {
            super(model);
        }

        @Override int preaches(int x) {
            ran(61);
            return super.preaches(x) + v;
        }

        @Override int kind() {
            return 6;
        }

        @Override int rise() {
            return super.rise() + row[model.week % 4] - 4;
        }
    }

    List<Kind> men = new ArrayList<>();
    int week;
    StringBuilder tape = new StringBuilder();
    String text;
    int towns;
    List<int[]> seen = new ArrayList<>();
    List<int[]> plans = new ArrayList<>();
    List<int[]> books = new ArrayList<>();
    List<Integer> trace = new ArrayList<>();
    Model taken;

    static int articles(int creed) {
        int n = 0;
        for (int a = 0; a < 8; a++) {
            if ((creed & (1 << a)) != 0) {
                n++;
            }
        }
        return n;
    }

    static Kind make(Model model, int kind) {
        switch (kind) {
            case 0: return new Kind(model);
            case 1: return new Deacon(model);
            case 2: return new Unitarian(model);
            case 3: return new Independent(model);
            case 4: return new Elder(model);
            case 5: return new Lapsed(model);
            default: return new Told(model);
        }
    }

    Model copy() {
        Model m = new Model();
        for (Kind k : men) {
            Kind n = make(m, k.kind());
            n.p = k.p;
            n.v = k.v;
            n.place = k.place;
            n.creed = k.creed;
            n.height = k.height;
            n.gone = k.gone;
            n.away = k.away;
            n.row = k.row.clone();
            m.men.add(n);
        }
        m.week = week;
        m.tape = new StringBuilder(tape);
        m.text = text;
        m.towns = towns;
        m.seen = new ArrayList<>(seen);
        m.plans = new ArrayList<>(plans);
        m.books = new ArrayList<>(books);
        return m;
    }

    // ---- towns, by splitting

    static final Pattern NUMBER = Pattern.compile("[0-9]|[1-9][0-9]");
    static final Pattern TEST = Pattern.compile("[pkvchw][<=>]([0-9]|[1-9][0-9])");

    /** The parts of s between such signs that stand in no bracket; null where brackets do not fit. */
    static List<String> split(String s, char between) {
        List<String> parts = new ArrayList<>();
        int deep = 0;
        int from = 0;
        for (int i = 0; i < s.length(); i++) {
            char c = s.charAt(i);
            if (c == '(') {
                deep++;
            } else if (c == ')') {
                deep--;
                if (deep < 0) {
                    return null;
                }
            } else if (c == between && deep == 0) {
                parts.add(s.substring(from, i));
                from = i + 1;
            }
        }
        parts.add(s.substring(from));
        return deep == 0 ? parts : null;
    }

    static boolean isE(String s, int open) {
        List<String> parts = split(s, '|');
        if (parts == null) {
            return false;
        }
        for (String part : parts) {
            List<String> ones = split(part, '&');
            if (ones == null) {
                return false;
            }
            for (String one : ones) {
                if (!isF(one, open)) {
                    return false;
                }
            }
        }
        return true;
    }

    static boolean isF(String s, int open) {
        if (s.startsWith("!")) {
            return open < 5 && isF(s.substring(1), open + 1);
        }
        if (s.startsWith("(")) {
            return open < 5 && s.endsWith(")") && isE(s.substring(1, s.length() - 1), open + 1);
        }
        return TEST.matcher(s).matches();
    }

    static boolean isClause(String s) {
        if (s.startsWith("burst ")) {
            return NUMBER.matcher(s.substring(6)).matches();
        }
        if (!s.startsWith("starch ") && !s.startsWith("soften ")) {
            return false;
        }
        int blank = s.indexOf(' ', 7);
        return blank > 0 && NUMBER.matcher(s.substring(7, blank)).matches() && isE(s.substring(blank + 1), 0);
    }

    static boolean isTown(String s) {
        String[] parts = s.split(";", -1);
        if (parts.length > 10) {
            return false;
        }
        for (String part : parts) {
            if (!isClause(part)) {
                return false;
            }
        }
        return true;
    }

    /** Whether any TOWN goes on from s: ends of clauses are tried behind it. */
    static boolean canGoOn(String s) {
        for (String whole : new String[] {"burst 1", "starch 1 p=1", "soften 1 p=1"}) {
            for (int from = 0; from <= whole.length(); from++) {
                String t = s + whole.substring(from);
                for (int brackets = 0; brackets <= 5; brackets++) {
                    if (isTown(t)) {
                        return true;
                    }
                    t = t + ")";
                }
            }
        }
        return false;
    }

    static int fault(String s) {
        if (isTown(s)) {
            return -1;
        }
        for (int i = 0; i < s.length(); i++) {
            if (!canGoOn(s.substring(0, i + 1))) {
                return i;
            }
        }
        return s.length();
    }

    boolean holdsE(String s, Kind k) {
        for (String part : split(s, '|')) {
            boolean all = true;
            for (String one : split(part, '&')) {
                all &= holdsF(one, k);
            }
            if (all) {
                return true;
            }
        }
        return false;
    }

    boolean holdsF(String s, Kind k) {
        if (s.startsWith("!")) {
            return !holdsF(s.substring(1), k);
        }
        if (s.startsWith("(")) {
            return holdsE(s.substring(1, s.length() - 1), k);
        }
        int n = Integer.parseInt(s.substring(2));
        int is;
        switch (s.charAt(0)) {
            case 'p': is = k.p; break;
            case 'k': is = k.kind(); break;
            case 'v': is = k.v; break;
            case 'c': is = articles(k.creed); break;
            case 'h': is = k.height / 10; break;
            default: is = week % 10;
        }
        return s.charAt(1) == '<' ? is < n : s.charAt(1) == '=' ? is == n : is > n;
    }

    int sum(Kind k) {
        int sum = 3;
        if (text != null) {
            for (String clause : text.split(";")) {
                if (!clause.startsWith("burst")) {
                    int blank = clause.indexOf(' ', 7);
                    int n = Integer.parseInt(clause.substring(7, blank));
                    if (holdsE(clause.substring(blank + 1), k)) {
                        sum += clause.startsWith("starch") ? n : -n;
                    }
                }
            }
        }
        return sum;
    }

    int burst() {
        int burst = 90;
        if (text != null) {
            for (String clause : text.split(";")) {
                if (clause.startsWith("burst")) {
                    burst = Integer.parseInt(clause.substring(6));
                }
            }
        }
        return burst;
    }

    // ---- weeks

    void goWeek() {
        int burst = burst();
        for (Kind k : men) {
            if (!k.away && !k.gone) {
                int h = k.height + k.rise();
                k.height = h < 0 ? 0 : h > 99 ? 99 : h;
                if (k.height >= burst) {
                    k.gone = true;
                    k.height = 0;
                    if ((k.creed >> k.v % 8) % 2 == 1) {
                        k.creed -= 1 << k.v % 8;
                    }
                }
            }
        }
        week++;
    }

    Model behind(int n) {
        Model m = copy();
        for (int i = 0; i < n; i++) {
            m.goWeek();
        }
        return m;
    }

    int gone() {
        int bits = 0;
        for (Kind k : men) {
            if (k.gone) {
                bits += 1 << k.p;
            }
        }
        return bits;
    }

    Kind find(int man) {
        return man >= 0 && man < men.size() ? men.get(man) : null;
    }

    int sees(Kind k) {
        int bits = 0;
        for (Kind o : men) {
            if (o != k && !o.away && !k.away && Math.abs(o.place - k.place) <= 9 - k.height / 10) {
                bits += 1 << o.p;
            }
        }
        return bits;
    }

    static int dist(Kind a, Kind b) {
        return articles(a.creed ^ b.creed);
    }

    // ---- the face

    int feed(int sign) {
        if (sign < 0 || sign > 127) {
            return BAD;
        }
        if (tape.length() == 100) {
            return FULL;
        }
        tape.append((char) sign);
        return tape.length();
    }

    int town() {
        if (towns == 5) {
            return FULL;
        }
        String s = tape.toString();
        tape = new StringBuilder();
        int fault = fault(s);
        if (fault >= 0) {
            return -10 - fault;
        }
        text = s;
        return towns++;
    }

    int man(int kind, int v, int place, int creed) {
        if (kind < 0 || kind > 6 || place < 0 || place > 9) {
            return NONE;
        }
        if (v < 0 || v > 9 || creed < 0 || creed > 255) {
            return BAD;
        }
        if (men.size() == 6) {
            return FULL;
        }
        Kind k = make(this, kind);
        k.p = men.size();
        k.v = v;
        k.place = place;
        k.creed = creed;
        men.add(k);
        return k.p;
    }

    int of(int man, int what) {
        Kind k = find(man);
        if (k == null || what < 0 || what > 9) {
            return -999999;
        }
        switch (what) {
            case 0: return k.kind();
            case 1: return k.v;
            case 2: return k.place;
            case 3: return k.creed;
            case 4: return k.height;
            case 5: return k.gone ? 1 : 0;
            case 6: return k.away ? 1 : 0;
            case 7: return k.rise();
            case 8: return sees(k);
            default:
                int best = 0;
                int most = -1;
                for (int place = 0; place < 10; place++) {
                    Model m = copy();
                    m.men.get(man).place = place;
                    int n = articles(m.sees(m.men.get(man)));
                    if (n > most) {
                        most = n;
                        best = place;
                    }
                }
                return best;
        }
    }

    int row(int man, int k, int n) {
        if (find(man) == null || k < 0 || k > 3) {
            return NONE;
        }
        if (n < 0 || n > 9) {
            return BAD;
        }
        if (find(man).kind() != 6) {
            return STATE;
        }
        int was = find(man).row[k];
        find(man).row[k] = n;
        return was;
    }

    int set(int man, int what, int n) {
        Kind k = find(man);
        if (k == null || what < 0 || what > 2) {
            return NONE;
        }
        if (n < 0 || n > new int[] {9, 255, 99}[what]) {
            return BAD;
        }
        int was;
        switch (what) {
            case 0: was = k.place; k.place = n; break;
            case 1: was = k.creed; k.creed = n; break;
            default: was = k.height; k.height = n;
        }
        return was;
    }

    int stud(int man, boolean isGone) {
        if (find(man) == null) {
            return NONE;
        }
        int was = find(man).gone ? 1 : 0;
        find(man).gone = isGone;
        return was;
    }

    int away(int man, boolean is) {
        if (find(man) == null) {
            return NONE;
        }
        int was = find(man).away ? 1 : 0;
        find(man).away = is;
        return was;
    }

    int apart(int man, int other) {
        if (find(man) == null || find(other) == null) {
            return NONE;
        }
        return man == other ? BAD : dist(find(man), find(other));
    }

    int told(int what) {
        int away = 0;
        int creed = 255;
        for (Kind k : men) {
            if (k.away) {
                away += 1 << k.p;
            } else {
                creed &= k.creed;
            }
        }
        switch (what) {
            case 0: return week;
            case 1: return burst();
            case 2: return gone();
            case 3: return away;
            case 4: return creed;
            default: return NONE;
        }
    }

    int pass(int n) {
        if (n < 0 || n > 60) {
            return BAD;
        }
        if (week + n > 9999) {
            return STATE;
        }
        for (int i = 0; i < n; i++) {
            goWeek();
        }
        return week;
    }

    int on(int n, int what) {
        boolean isOne = what >= 10 && what < 10 + men.size();
        boolean isCreed = what >= 20 && what < 20 + men.size();
        if (what != 0 && !isOne && !isCreed) {
            return NONE;
        }
        if (n < 0 || n > 60) {
            return BAD;
        }
        Model m = behind(n);
        return what == 0 ? m.gone() : isOne ? m.men.get(what - 10).height : m.men.get(what - 20).creed;
    }

    int when(int man) {
        if (find(man) == null) {
            return NONE;
        }
        for (int n = 0; n <= 60; n++) {
            if (behind(n).men.get(man).gone) {
                return n;
            }
        }
        return -5;
    }

    private int[] walkBest;
    private int walkLeast;

    /** Every row there is, the first of them first. */
    private void tryWalk(int[] row, int at) {
        if (at == row.length) {
            int alone = 0;
            int together = 0;
            for (int i = 0; i < row.length; i++) {
                boolean isAway = men.get(i).away;
                if (row[i] == 9) {
                    alone += isAway ? 0 : 1;
                } else if (isAway || row[i] == i || row[row[i]] != i) {
                    return;
                } else if (row[i] > i) {
                    together += dist(men.get(i), men.get(row[i]));
                }
            }
            if (alone <= 1 && together < walkLeast) {
                walkLeast = together;
                walkBest = row.clone();
            }
            return;
        }
        for (int other = 0; other < row.length; other++) {
            row[at] = other;
            boolean isOdd = other == at || men.get(other).away || (other < at && row[other] != at);
            if (!isOdd) {
                tryWalk(row, at + 1);
            }
        }
        row[at] = 9;
        tryWalk(row, at + 1);
    }

    int walk(int k) {
        if (k < -1 || k >= men.size()) {
            return NONE;
        }
        walkLeast = 1000;
        walkBest = null;
        tryWalk(new int[men.size()], 0);
        return k == -1 ? walkLeast : walkBest[k] == 9 ? -5 : walkBest[k];
    }

    int table(int q) {
        if (q < 0 || q > 8) {
            return BAD;
        }
        int best = 0;
        for (int set = (1 << men.size()) - 1; set >= 0; set--) {
            boolean is = true;
            for (Kind a : men) {
                for (Kind b : men) {
                    if ((set >> a.p) % 2 == 1 && (set >> b.p) % 2 == 1) {
                        is &= !a.away && dist(a, b) <= q;
                    }
                }
            }
            if (is && articles(set) >= articles(best)) {
                best = set;
            }
        }
        return best;
    }

    int wash(int n) {
        if (n < 0 || n > 6) {
            return BAD;
        }
        int best = -1;
        int bestGone = 99;
        for (int size = 0; size <= n; size++) {
            for (int set = 0; set < 1 << men.size(); set++) {
                if (articles(set) == size) {
                    Model m = copy();
                    for (Kind k : m.men) {
                        if ((set >> k.p) % 2 == 1) {
                            k.height = 0;
                        }
                    }
                    int gone = articles(m.behind(12).gone());
                    if (gone < bestGone) {
                        bestGone = gone;
                        best = set;
                    }
                }
            }
        }
        return best;
    }

    int see(int man, int n, int height) {
        if (man == -1) {
            seen.clear();
            return 0;
        }
        if (find(man) == null) {
            return NONE;
        }
        if (n < 0 || n > 20 || height < 0 || height > 99) {
            return BAD;
        }
        if (seen.size() == 5) {
            return FULL;
        }
        seen.add(new int[] {man, n, height});
        return seen.size();
    }

    boolean isAsSeen(int man) {
        for (int[] s : seen) {
            if (s[0] == man && behind(s[1]).men.get(man).height != s[2]) {
                return false;
            }
        }
        return true;
    }

    int fitting(int man, int what, boolean isHeight) {
        if (find(man) == null || what < 0 || what > 1) {
            return NONE;
        }
        List<Integer> all = new ArrayList<>();
        for (int n = 0; n < (isHeight ? 100 : 10); n++) {
            Model m = copy();
            if (isHeight) {
                m.men.get(man).height = n;
            } else {
                m.men.get(man).v = n;
            }
            if (m.isAsSeen(man)) {
                all.add(n);
            }
        }
        return what == 0 ? all.size() : all.isEmpty() ? -5 : all.get(0);
    }

    int highs(int man, int what) {
        return fitting(man, what, true);
    }

    int firm(int man, int what) {
        return fitting(man, what, false);
    }

    static long fraction(int above, int below, int part) {
        int a = above;
        int b = below;
        while (b != 0) {
            int c = a % b;
            a = b;
            b = c;
        }
        return (part == 0 ? above : below) / a;
    }

    long odds(int man, int n, int part) {
        if (find(man) == null || n < 0 || n > 60 || part < 0 || part > 1) {
            return Long.MIN_VALUE;
        }
        int goes = 0;
        for (int a = 0; a < 8; a++) {
            Model m = copy();
            Kind k = m.men.get(man);
            k.creed = (k.creed >> a) % 2 == 1 ? k.creed - (1 << a) : k.creed + (1 << a);
            goes += (m.behind(n).gone() >> man) % 2;
        }
        return fraction(goes, 8, part);
    }

    long mean(int part) {
        int heights = 0;
        int n = 0;
        for (Kind k : men) {
            if (!k.away) {
                heights += k.height;
                n++;
            }
        }
        return part < 0 || part > 1 || n == 0 ? Long.MIN_VALUE : fraction(heights, n, part);
    }

    int plan(int what, int man) {
        if (what == -1) {
            plans.clear();
            return 0;
        }
        if (what < 0 || what > 3 || what > 0 && find(man) == null) {
            return NONE;
        }
        if (plans.size() == 8) {
            return FULL;
        }
        plans.add(new int[] {what, man});
        return plans.size();
    }

    int done(int what) {
        if (what < 0 || what > 1) {
            return NONE;
        }
        Model m = copy();
        for (int[] p : plans) {
            switch (p[0]) {
                case 0: m.goWeek(); break;
                case 1: m.men.get(p[1]).height = 0; break;
                case 2: m.men.get(p[1]).gone = false; break;
                default: m.men.get(p[1]).away = true;
            }
        }
        int heights = 0;
        for (Kind k : m.men) {
            heights += k.height;
        }
        return what == 0 ? m.gone() : heights;
    }

    int book(int man, int creed) {
        if (man == -1) {
            books.clear();
            return 0;
        }
        if (find(man) == null) {
            return NONE;
        }
        if (creed < 0 || creed > 255) {
            return BAD;
        }
        if (books.size() == 8) {
            return FULL;
        }
        books.add(new int[] {man, creed});
        return books.size();
    }

    int looked() {
        for (int i = 0; i < books.size(); i++) {
            if (men.get(books.get(i)[0]).creed != books.get(i)[1]) {
                return i;
            }
        }
        return -5;
    }

    int act(int man, int act, int x) {
        trace.clear();
        Kind k = find(man);
        if (k == null || act < 0 || act > 2) {
            return 0;
        }
        return act == 0 ? k.nods(x) : act == 1 ? k.preaches(x) : k.turns(x);
    }

    int trace(int i) {
        return i < 0 || i >= trace.size() || i >= 20 ? NONE : trace.get(i);
    }

    int as(int man, int k) {
        Kind m = find(man);
        if (m == null || k < 0 || k > 6) {
            return NONE;
        }
        Class<?>[] kinds = {Kind.class, Deacon.class, Unitarian.class, Independent.class, Elder.class, Lapsed.class,
            Told.class};
        return kinds[k].isInstance(m) ? m.v : -6;
    }

    int image() {
        taken = copy();
        return men.size();
    }

    int undo() {
        if (taken == null) {
            return STATE;
        }
        Model m = taken.copy();
        men = new ArrayList<>();
        for (Kind k : m.men) {
            Kind n = make(this, k.kind());
            n.p = k.p;
            n.v = k.v;
            n.place = k.place;
            n.creed = k.creed;
            n.height = k.height;
            n.gone = k.gone;
            n.away = k.away;
            n.row = k.row;
            men.add(n);
        }
        week = m.week;
        tape = m.tape;
        text = m.text;
        towns = m.towns;
        seen = m.seen;
        plans = m.plans;
        books = m.books;
        return men.size();
    }

    int count(int what) {
        switch (what) {
            case 0: return men.size();
            case 1: return towns;
            case 2: return seen.size();
            case 3: return plans.size();
            case 4: return books.size();
            case 5: return tape.length();
            case 6: return trace.size();
            default: return NONE;
        }
    }
}
