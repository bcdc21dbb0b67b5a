/** Men whose collars are starched week by week; ../shared/DOC.md tells what each call answers. */
public final class StarchedCollars {
    public static final int NONE = -1, BAD = -2, STATE = -3, FULL = -4;
    public static final long NO = Long.MIN_VALUE;

    private static final int NONE_BELOW_ZERO = -999999, NO_ONE = -5, OTHER_KIND = -6, FIRST_FAULT = -10;

    private static final int MEN_MOST = 6, TAPE_MOST = 100, TOWNS_MOST = 5, CLAUSES_MOST = 10, OPEN_MOST = 5;
    private static final int SEEN_MOST = 5, ROWS_MOST = 8, TRACE_MOST = 20;
    private static final int LAST_KIND = 6, LAST_PLACE = 9, LAST_DIGIT = 9, LAST_SIGN = 127;
    private static final int ARTICLES = 8, FULL_CREED = 255, HEIGHT_MOST = 99;
    private static final int AHEAD_MOST = 60, SEEN_AHEAD_MOST = 20, WASH_WEEKS = 12, LAST_WEEK = 9999;
    private static final int BURST_WITHOUT = 90, SUM_WITHOUT = 3, ELDER_STOPS = 60;

    private static final int DEACON = 1, UNITARIAN = 2, INDEPENDENT = 3, ELDER = 4, LAPSED = 5, TOLD = 6;
    /** By KIND, the KIND above; MAN, which has none, stands for itself. */
    private static final int[] ABOVE = {0, 0, 0, 0, 1, 2, 3};

    private final World now = new World();
    private final World image = new World();
    private boolean isImageTaken;
    /** One man who is led on from now, so that the men themselves stay as they are. */
    private final Man ghost = new Man();
    private final Reader reader = new Reader();
    private final Actor actor = new Actor();
    private final Pairing pairing = new Pairing();

    public StarchedCollars() {
    }

    // ---- towns, men

    public int feed(int sign) {
        if (!isUpTo(sign, LAST_SIGN)) {
            return BAD;
        }
        if (now.tapeSize >= TAPE_MOST) {
            return FULL;
        }
        now.tape[now.tapeSize] = (byte) sign;
        now.tapeSize++;
        return now.tapeSize;
    }

    public int town() {
        if (now.townCount >= TOWNS_MOST) {
            return FULL;
        }
        boolean isTown = reader.reads(now.tape, now.tapeSize);
        now.tapeSize = 0;
        if (!isTown) {
            return FIRST_FAULT - reader.at;
        }
        now.town.copyFrom(reader.draft);
        now.townCount++;
        return now.townCount - 1;
    }

    public int man(int kind, int v, int place, int creed) {
        if (!isUpTo(kind, LAST_KIND) || !isUpTo(place, LAST_PLACE)) {
            return NONE;
        }
        if (!isUpTo(v, LAST_DIGIT) || !isUpTo(creed, FULL_CREED)) {
            return BAD;
        }
        if (now.menCount >= MEN_MOST) {
            return FULL;
        }
        int number = now.menCount;
        now.men[number].begin(number, kind, v, place, creed);
        now.menCount++;
        return number;
    }

    public int of(int man, int what) {
        Man m = now.find(man);
        if (m == null) {
            return NONE_BELOW_ZERO;
        }
        switch (what) {
            case 0: return m.kind;
            case 1: return m.v;
            case 2: return m.place;
            case 3: return m.creed;
            case 4: return m.height;
            case 5: return m.isGone ? 1 : 0;
            case 6: return m.isAway ? 1 : 0;
            case 7: return m.rise(now.town.sum(m, now.week), now.week);
            case 8: return seenFrom(m, m.place);
            case 9: return bench(m);
            default: return NONE_BELOW_ZERO;
        }
    }

    public int row(int man, int k, int n) {
        Man m = now.find(man);
        if (m == null || k < 0 || k >= m.row.length) {
            return NONE;
        }
        if (!isUpTo(n, LAST_DIGIT)) {
            return BAD;
        }
        if (m.kind != TOLD) {
            return STATE;
        }
        int was = m.row[k];
        m.row[k] = n;
        return was;
    }

    public int set(int man, int what, int n) {
        Man m = now.find(man);
        if (m == null || !isUpTo(what, 2)) {
            return NONE;
        }
        int most = what == 0 ? LAST_PLACE : what == 1 ? FULL_CREED : HEIGHT_MOST;
        if (!isUpTo(n, most)) {
            return BAD;
        }
        int was;
        if (what == 0) {
            was = m.place;
            m.place = n;
        } else if (what == 1) {
            was = m.creed;
            m.creed = n;
        } else {
            was = m.height;
            m.height = n;
        }
        return was;
    }

    public int stud(int man, boolean isGone) {
        Man m = now.find(man);
        if (m == null) {
            return NONE;
        }
        int was = m.isGone ? 1 : 0;
        m.isGone = isGone;
        return was;
    }

    public int away(int man, boolean is) {
        Man m = now.find(man);
        if (m == null) {
            return NONE;
        }
        int was = m.isAway ? 1 : 0;
        m.isAway = is;
        return was;
    }

    public int apart(int man, int other) {
        Man one = now.find(man);
        Man two = now.find(other);
        if (one == null || two == null) {
            return NONE;
        }
        return man == other ? BAD : one.distanceTo(two);
    }

    public int told(int what) {
        switch (what) {
            case 0: return now.week;
            case 1: return now.town.burst;
            case 2: return goneBehind(0);
            case 3: return now.allBits() & ~now.presentBits();
            case 4: return sharedCreed();
            default: return NONE;
        }
    }

    public int pass(int n) {
        if (!isUpTo(n, AHEAD_MOST)) {
            return BAD;
        }
        if (now.week + n > LAST_WEEK) {
            return STATE;
        }
        for (int i = 0; i < now.menCount; i++) {
            goOn(now.men[i], n);
        }
        now.week += n;
        return now.week;
    }

    // ---- weeks to come, walks, tables

    public int on(int n, int what) {
        boolean isCreed = what >= 20;
        Man m = now.find(what - (isCreed ? 20 : 10));
        if (m == null && what != 0) {
            return NONE;
        }
        if (!isUpTo(n, AHEAD_MOST)) {
            return BAD;
        }
        if (m == null) {
            return goneBehind(n);
        }
        ghost.copyFrom(m);
        goOn(ghost, n);
        return isCreed ? ghost.creed : ghost.height;
    }

    public int when(int man) {
        Man m = now.find(man);
        if (m == null) {
            return NONE;
        }
        ghost.copyFrom(m);
        for (int n = 0; n <= AHEAD_MOST; n++) {
            if (ghost.isGone) {
                return n;
            }
            ghost.live(now.town, now.week + n);
        }
        return NO_ONE;
    }

    public int walk(int k) {
        if (k < -1 || k >= now.menCount) {
            return NONE;
        }
        int present = now.presentBits();
        pairing.weigh(now, present);
        if (k == -1) {
            return pairing.least[present];
        }
        return pairing.partner(now, present, k);
    }

    public int table(int q) {
        if (!isUpTo(q, ARTICLES)) {
            return BAD;
        }
        int present = now.presentBits();
        int best = 0;
        for (int set = 1; set <= present; set++) {
            boolean isGreater = Integer.bitCount(set) > Integer.bitCount(best);
            if (isGreater && (set & ~present) == 0 && isNear(set, q)) {
                best = set;
            }
        }
        return best;
    }

    public int wash(int n) {
        if (!isUpTo(n, MEN_MOST)) {
            return BAD;
        }
        int goneUnwashed = 0;
        int goneWashed = 0;
        for (int i = 0; i < now.menCount; i++) {
            goneUnwashed |= isGoneBehindWash(now.men[i], false) ? 1 << i : 0;
            goneWashed |= isGoneBehindWash(now.men[i], true) ? 1 << i : 0;
        }
        // one stud outweighs all the men that a set can have
        int studWeight = MEN_MOST + 1;
        int best = 0;
        int fewest = Integer.bitCount(goneUnwashed) * studWeight;
        int all = now.allBits();
        for (int set = 1; set <= all; set++) {
            int gone = (goneUnwashed & ~set) | (goneWashed & set);
            int weight = Integer.bitCount(gone) * studWeight + Integer.bitCount(set);
            if (Integer.bitCount(set) <= n && weight < fewest) {
                fewest = weight;
                best = set;
            }
        }
        return best;
    }

    // ---- seen, odds; part 0 above, 1 below the line

    public int see(int man, int n, int height) {
        if (man == -1) {
            return now.seen.empty();
        }
        if (now.find(man) == null) {
            return NONE;
        }
        if (!isUpTo(n, SEEN_AHEAD_MOST) || !isUpTo(height, HEIGHT_MOST)) {
            return BAD;
        }
        return now.seen.size >= SEEN_MOST ? FULL : now.seen.put(man, n, height);
    }

    public int highs(int man, int what) {
        return fitting(now.find(man), what, true);
    }

    public int firm(int man, int what) {
        return fitting(now.find(man), what, false);
    }

    public long odds(int man, int n, int part) {
        Man m = now.find(man);
        if (m == null || !isUpTo(n, AHEAD_MOST) || !isUpTo(part, 1)) {
            return NO;
        }
        int gone = 0;
        for (int article = 0; article < ARTICLES; article++) {
            ghost.copyFrom(m);
            ghost.creed ^= 1 << article;
            goOn(ghost, n);
            gone += ghost.isGone ? 1 : 0;
        }
        return lowest(gone, ARTICLES, part);
    }

    public long mean(int part) {
        int present = now.presentBits();
        if (!isUpTo(part, 1) || present == 0) {
            return NO;
        }
        int heights = 0;
        for (int i = 0; i < now.menCount; i++) {
            heights += now.men[i].isAway ? 0 : now.men[i].height;
        }
        return lowest(heights, Integer.bitCount(present), part);
    }

    // ---- plans, books

    public int plan(int what, int man) {
        if (what == -1) {
            return now.plan.empty();
        }
        if (!isUpTo(what, 3) || (what != 0 && now.find(man) == null)) {
            return NONE;
        }
        return now.plan.size >= ROWS_MOST ? FULL : now.plan.put(what, man, 0);
    }

    public int done(int what) {
        if (!isUpTo(what, 1)) {
            return NONE;
        }
        int gone = 0;
        int heights = 0;
        for (int i = 0; i < now.menCount; i++) {
            ghost.copyFrom(now.men[i]);
            followPlan();
            gone |= ghost.isGone ? 1 << i : 0;
            heights += ghost.height;
        }
        return what == 0 ? gone : heights;
    }

    public int book(int man, int creed) {
        if (man == -1) {
            return now.book.empty();
        }
        if (now.find(man) == null) {
            return NONE;
        }
        if (!isUpTo(creed, FULL_CREED)) {
            return BAD;
        }
        return now.book.size >= ROWS_MOST ? FULL : now.book.put(man, creed, 0);
    }

    public int looked() {
        for (int i = 0; i < now.book.size; i++) {
            Man m = now.find(now.book.first[i]);
            if (m != null && m.creed != now.book.second[i]) {
                return i;
            }
        }
        return NO_ONE;
    }

    // ---- acts, the image

    public int act(int man, int act, int x) {
        return actor.perform(now.find(man), act, x);
    }

    public int trace(int i) {
        return i >= 0 && i < actor.ran && i < TRACE_MOST ? actor.bodies[i] : NONE;
    }

    public int as(int man, int k) {
        Man m = now.find(man);
        if (m == null || !isUpTo(k, LAST_KIND)) {
            return NONE;
        }
        int kind = m.kind;
        for (int i = 0; i < ABOVE.length && kind != k && isUpTo(kind, LAST_KIND); i++) {
            kind = ABOVE[kind];
        }
        return kind == k ? m.v : OTHER_KIND;
    }

    public int image() {
        image.copyFrom(now);
        isImageTaken = true;
        return now.menCount;
    }

    public int undo() {
        if (!isImageTaken) {
            return STATE;
        }
        now.copyFrom(image);
        return now.menCount;
    }

    public int count(int what) {
        switch (what) {
            case 0: return now.menCount;
            case 1: return now.townCount;
            case 2: return now.seen.size;
            case 3: return now.plan.size;
            case 4: return now.book.size;
            case 5: return now.tapeSize;
            case 6: return actor.ran;
            default: return NONE;
        }
    }

    // ---- what the calls share

    private static boolean isUpTo(int n, int most) {
        return n >= 0 && n <= most;
    }

    /** One part of a fraction in lowest terms; below is small, so that trying its divisors is enough. */
    private static int lowest(int above, int below, int part) {
        int upper = part == 0 ? above : below;
        for (int d = below; d > 1; d--) {
            if (above % d == 0 && below % d == 0) {
                return upper / d;
            }
        }
        return upper;
    }

    private void goOn(Man m, int weeks) {
        for (int n = 0; n < weeks; n++) {
            m.live(now.town, now.week + n);
        }
    }

    private int goneBehind(int weeks) {
        int gone = 0;
        for (int i = 0; i < now.menCount; i++) {
            ghost.copyFrom(now.men[i]);
            goOn(ghost, weeks);
            gone |= ghost.isGone ? 1 << i : 0;
        }
        return gone;
    }

    private boolean isGoneBehindWash(Man m, boolean isWashed) {
        ghost.copyFrom(m);
        if (isWashed) {
            ghost.height = 0;
        }
        goOn(ghost, WASH_WEEKS);
        return ghost.isGone;
    }

    private int sharedCreed() {
        int shared = FULL_CREED;
        for (int i = 0; i < now.menCount; i++) {
            shared &= now.men[i].isAway ? FULL_CREED : now.men[i].creed;
        }
        return shared;
    }

    private int seenFrom(Man m, int place) {
        if (m.isAway) {
            return 0;
        }
        int seen = 0;
        for (int i = 0; i < now.menCount; i++) {
            Man other = now.men[i];
            boolean isNear = Math.abs(other.place - place) <= m.reach();
            seen |= isNear && !other.isAway && i != m.number ? 1 << i : 0;
        }
        return seen;
    }

    private int bench(Man m) {
        int best = 0;
        for (int place = 1; place <= LAST_PLACE; place++) {
            if (Integer.bitCount(seenFrom(m, place)) > Integer.bitCount(seenFrom(m, best))) {
                best = place;
            }
        }
        return best;
    }

    private boolean isNear(int set, int q) {
        for (int i = 0; i < now.menCount; i++) {
            for (int j = i + 1; j < now.menCount; j++) {
                boolean areIn = (set >> i & set >> j & 1) != 0;
                if (areIn && now.men[i].distanceTo(now.men[j]) > q) {
                    return false;
                }
            }
        }
        return true;
    }

    /** HIGHS, or FIRM: how many heights, or numbers v, are as SEEN, or the least of them. */
    private int fitting(Man m, int what, boolean isOfHeight) {
        if (m == null || !isUpTo(what, 1)) {
            return NONE;
        }
        int latest = latestSeen(m.number);
        int most = isOfHeight ? HEIGHT_MOST : LAST_DIGIT;
        int many = 0;
        int least = NO_ONE;
        for (int tried = most; tried >= 0; tried--) {
            ghost.copyFrom(m);
            if (isOfHeight) {
                ghost.height = tried;
            } else {
                ghost.v = tried;
            }
            if (isGhostAsSeen(latest)) {
                many++;
                least = tried;
            }
        }
        return what == 0 ? many : least;
    }

    private int latestSeen(int man) {
        int latest = -1;
        for (int i = 0; i < now.seen.size; i++) {
            if (now.seen.first[i] == man) {
                latest = Math.max(latest, now.seen.second[i]);
            }
        }
        return latest;
    }

    private boolean isGhostAsSeen(int latest) {
        for (int n = 0; n <= latest; n++) {
            if (!isGhostAsSeenAt(n)) {
                return false;
            }
            ghost.live(now.town, now.week + n);
        }
        return true;
    }

    private boolean isGhostAsSeenAt(int n) {
        Rows seen = now.seen;
        for (int i = 0; i < seen.size; i++) {
            boolean isAsked = seen.first[i] == ghost.number && seen.second[i] == n;
            if (isAsked && seen.third[i] != ghost.height) {
                return false;
            }
        }
        return true;
    }

    /** Men do not act on one another, so that the PLAN can be followed for one at a time. */
    private void followPlan() {
        int week = now.week;
        for (int i = 0; i < now.plan.size; i++) {
            int what = now.plan.first[i];
            boolean isItsRow = now.plan.second[i] == ghost.number;
            if (what == 0) {
                ghost.live(now.town, week);
                week++;
            } else if (what == 1 && isItsRow) {
                ghost.height = 0;
            } else if (what == 2 && isItsRow) {
                ghost.isGone = false;
            } else if (what == 3 && isItsRow) {
                ghost.isAway = true;
            }
        }
    }

    /** All that THE IMAGE holds. */
    private static final class World {
        final Man[] men = new Man[MEN_MOST];
        int menCount;
        int week;
        final byte[] tape = new byte[TAPE_MOST];
        int tapeSize;
        final Town town = new Town();
        int townCount;
        final Rows seen = new Rows();
        final Rows plan = new Rows();
        final Rows book = new Rows();

        World() {
            for (int i = 0; i < MEN_MOST; i++) {
                men[i] = new Man();
            }
        }

        void copyFrom(World other) {
            for (int i = 0; i < MEN_MOST; i++) {
                men[i].copyFrom(other.men[i]);
            }
            menCount = other.menCount;
            week = other.week;
            System.arraycopy(other.tape, 0, tape, 0, TAPE_MOST);
            tapeSize = other.tapeSize;
            town.copyFrom(other.town);
            townCount = other.townCount;
            seen.copyFrom(other.seen);
            plan.copyFrom(other.plan);
            book.copyFrom(other.book);
        }

        Man find(int number) {
            return number >= 0 && number < menCount && number < MEN_MOST ? men[number] : null;
        }

        int allBits() {
            return (1 << menCount) - 1;
        }

        int presentBits() {
            int present = 0;
            for (int i = 0; i < menCount; i++) {
                present |= men[i].isAway ? 0 : 1 << i;
            }
            return present;
        }
    }

    private static final class Man {
        int number;
        int kind;
        int v;
        int place;
        int creed;
        int height;
        boolean isGone;
        boolean isAway;
        final int[] row = new int[4];

        /** Men are made once and used again, so that all of an earlier one must go. */
        void begin(int itsNumber, int itsKind, int itsV, int itsPlace, int itsCreed) {
            number = itsNumber;
            kind = itsKind;
            v = itsV;
            place = itsPlace;
            creed = itsCreed;
            height = 0;
            isGone = false;
            isAway = false;
            for (int i = 0; i < row.length; i++) {
                row[i] = 0;
            }
        }

        void copyFrom(Man other) {
            number = other.number;
            kind = other.kind;
            v = other.v;
            place = other.place;
            creed = other.creed;
            height = other.height;
            isGone = other.isGone;
            isAway = other.isAway;
            System.arraycopy(other.row, 0, row, 0, row.length);
        }

        int reach() {
            return 9 - height / 10;
        }

        int distanceTo(Man other) {
            return Integer.bitCount(creed ^ other.creed);
        }

        int rise(int sum, int week) {
            switch (kind) {
                case DEACON: return sum + v;
                case UNITARIAN: return sum / 2;
                case INDEPENDENT: return sum + Integer.bitCount(creed);
                case ELDER: return height >= ELDER_STOPS ? 0 : sum + v;
                case LAPSED: return sum / 2 - v;
                case TOLD: return sum + Integer.bitCount(creed) + row[week & 3] - 4;
                default: return sum;
            }
        }

        /** One WEEK goes for this man: how he fares hangs on himself, the week and the town alone. */
        void live(Town town, int week) {
            if (isAway || isGone) {
                return;
            }
            int risen = height + rise(town.sum(this, week), week);
            height = Math.min(Math.max(risen, 0), HEIGHT_MOST);
            if (height >= town.burst) {
                isGone = true;
                height = 0;
                creed &= ~(1 << v % ARTICLES);
            }
        }
    }

    /** The CLAUSES that hold, each E with its signs put behind what they join. */
    private static final class Town {
        static final int NOT = -1, AND = -2, OR = -3;

        int burst = BURST_WITHOUT;
        int clauses;
        /** By clause: how much it adds to SUM, and where its codes end. */
        final int[] amounts = new int[CLAUSES_MOST];
        final int[] ends = new int[CLAUSES_MOST];
        final int[] codes = new int[TAPE_MOST];
        int codeCount;
        /** What the tests p, k, v, c, h, w ask of the man whose SUM it is. */
        final int[] facts = new int[6];

        void clear() {
            burst = BURST_WITHOUT;
            clauses = 0;
            codeCount = 0;
        }

        void copyFrom(Town other) {
            burst = other.burst;
            clauses = other.clauses;
            System.arraycopy(other.amounts, 0, amounts, 0, CLAUSES_MOST);
            System.arraycopy(other.ends, 0, ends, 0, CLAUSES_MOST);
            System.arraycopy(other.codes, 0, codes, 0, TAPE_MOST);
            codeCount = other.codeCount;
        }

        void put(int code) {
            if (codeCount < TAPE_MOST) {
                codes[codeCount] = code;
                codeCount++;
            }
        }

        void endClause(int amount) {
            if (clauses < CLAUSES_MOST) {
                amounts[clauses] = amount;
                ends[clauses] = codeCount;
                clauses++;
            }
        }

        int sum(Man m, int week) {
            facts[0] = m.number;
            facts[1] = m.kind;
            facts[2] = m.v;
            facts[3] = Integer.bitCount(m.creed);
            facts[4] = m.height / 10;
            facts[5] = week % 10;
            int sum = SUM_WITHOUT;
            int from = 0;
            for (int i = 0; i < clauses; i++) {
                sum += holds(from, ends[i]) ? amounts[i] : 0;
                from = ends[i];
            }
            return sum;
        }

        /** The truths that still wait for a sign are bits, the latest one the lowest. */
        private boolean holds(int from, int end) {
            long truths = 0;
            for (int i = from; i < end; i++) {
                int code = codes[i];
                if (code == NOT) {
                    truths ^= 1;
                } else if (code == AND) {
                    truths = (truths >> 1) & (truths | ~1L);
                } else if (code == OR) {
                    truths = (truths >> 1) | (truths & 1);
                } else {
                    truths = (truths << 1) | (isSo(code) ? 1 : 0);
                }
            }
            return (truths & 1) != 0;
        }

        static int testCode(int what, int sign, int n) {
            return (what * 3 + sign) * 100 + n;
        }

        private boolean isSo(int code) {
            int what = code / 300;
            if (what < 0 || what >= facts.length) {
                return false;
            }
            int n = code % 100;
            switch (code / 100 % 3) {
                case 0: return facts[what] < n;
                case 1: return facts[what] == n;
                default: return facts[what] > n;
            }
        }
    }

    /** Reads a TOWN from left to right; where no TOWN can go on, it stands still, and that is the FAULT. */
    private static final class Reader {
        final Town draft = new Town();
        private final byte[] text = new byte[TAPE_MOST];
        private int size;
        int at;
        private int number;

        boolean reads(byte[] tape, int tapeSize) {
            System.arraycopy(tape, 0, text, 0, TAPE_MOST);
            size = Math.min(tapeSize, TAPE_MOST);
            at = 0;
            draft.clear();
            for (int i = 1; i <= CLAUSES_MOST; i++) {
                if (!readsClause()) {
                    return false;
                }
                if (at == size) {
                    return true;
                }
                if (i == CLAUSES_MOST || !takes(';')) {
                    return false;
                }
            }
            return false;
        }

        private boolean readsClause() {
            if (takes('b')) {
                boolean isBurst = takesAll("urst ") && readsNumber();
                draft.burst = isBurst ? number : draft.burst;
                return isBurst;
            }
            if (!takes('s')) {
                return false;
            }
            boolean isStarch = takes('t');
            if (!takesAll(isStarch ? "arch " : "often ") || !readsNumber()) {
                return false;
            }
            int amount = isStarch ? number : -number;
            if (!takes(' ') || !readsEither(0)) {
                return false;
            }
            draft.endClause(amount);
            return true;
        }

        /** E, within so many open ! and (. */
        private boolean readsEither(int open) {
            for (int i = 0; i < TAPE_MOST; i++) {
                if (!readsBoth(open)) {
                    return false;
                }
                if (i > 0) {
                    draft.put(Town.OR);
                }
                if (!takes('|')) {
                    return true;
                }
            }
            return false;
        }

        /** T. */
        private boolean readsBoth(int open) {
            for (int i = 0; i < TAPE_MOST; i++) {
                if (!readsOne(open)) {
                    return false;
                }
                if (i > 0) {
                    draft.put(Town.AND);
                }
                if (!takes('&')) {
                    return true;
                }
            }
            return false;
        }

        /** F. */
        private boolean readsOne(int open) {
            if (open < OPEN_MOST && takes('!')) {
                boolean isRead = readsOne(open + 1);
                draft.put(Town.NOT);
                return isRead;
            }
            if (open < OPEN_MOST && takes('(')) {
                return readsEither(open + 1) && takes(')');
            }
            return readsTest();
        }

        private boolean readsTest() {
            int what = at < size ? "pkvchw".indexOf((char) text[at]) : -1;
            if (what < 0) {
                return false;
            }
            at++;
            int sign = at < size ? "<=>".indexOf((char) text[at]) : -1;
            if (sign < 0) {
                return false;
            }
            at++;
            if (!readsNumber()) {
                return false;
            }
            draft.put(Town.testCode(what, sign, number));
            return true;
        }

        private boolean readsNumber() {
            int digits = 0;
            number = 0;
            while (digits < 2 && at < size && text[at] >= '0' && text[at] <= '9') {
                if (digits == 1 && number == 0) {
                    return true;
                }
                number = number * 10 + text[at] - '0';
                at++;
                digits++;
            }
            return digits > 0;
        }

        private boolean takes(char sign) {
            if (at >= size || text[at] != sign) {
                return false;
            }
            at++;
            return true;
        }

        private boolean takesAll(String signs) {
            for (int i = 0; i < signs.length(); i++) {
                if (!takes(signs.charAt(i))) {
                    return false;
                }
            }
            return true;
        }
    }

    /** Rows told by hand: SEEN, the PLAN, BOOK. */
    private static final class Rows {
        final int[] first = new int[ROWS_MOST];
        final int[] second = new int[ROWS_MOST];
        final int[] third = new int[ROWS_MOST];
        int size;

        int put(int one, int two, int three) {
            if (size < ROWS_MOST) {
                first[size] = one;
                second[size] = two;
                third[size] = three;
                size++;
            }
            return size;
        }

        int empty() {
            size = 0;
            return size;
        }

        void copyFrom(Rows other) {
            System.arraycopy(other.first, 0, first, 0, ROWS_MOST);
            System.arraycopy(other.second, 0, second, 0, ROWS_MOST);
            System.arraycopy(other.third, 0, third, 0, ROWS_MOST);
            size = other.size;
        }
    }

    /** WALK, by the least that each set of men (bits) can be paired for. */
    private static final class Pairing {
        /** More than any pairs can be apart. */
        private static final int FAR = 99;

        final int[] least = new int[1 << MEN_MOST];

        void weigh(World world, int present) {
            for (int set = 1; set <= present && set < least.length; set++) {
                int first = Integer.numberOfTrailingZeros(set);
                int rest = set & ~(1 << first);
                // one can be left without another only where the others are even in number
                int best = Integer.bitCount(rest) % 2 == 0 ? least[rest] : FAR;
                for (int other = first + 1; other < world.menCount; other++) {
                    best = Math.min(best, together(world, set, first, other));
                }
                least[set] = best;
            }
        }

        /** How much the set comes to, if these two of it are a pair. */
        private int together(World world, int set, int first, int other) {
            int rest = set & ~(1 << first) & ~(1 << other);
            boolean areTwo = Integer.bitCount(rest) == Integer.bitCount(set) - 2;
            return areTwo ? least[rest] + world.men[first].distanceTo(world.men[other]) : FAR;
        }

        /** Of the pairs that come to the least, the first man takes the first he can, and so on. */
        int partner(World world, int present, int k) {
            int set = present;
            for (int i = 0; i < MEN_MOST && set != 0; i++) {
                int first = Integer.numberOfTrailingZeros(set);
                int other = firstPartner(world, set, first);
                if (first == k) {
                    return other;
                }
                if (other == k) {
                    return first;
                }
                set &= ~(1 << first | (other < 0 ? 0 : 1 << other));
            }
            return NO_ONE;
        }

        private int firstPartner(World world, int set, int first) {
            for (int other = first + 1; other < world.menCount; other++) {
                if (together(world, set, first, other) == least[set]) {
                    return other;
                }
            }
            return NO_ONE;
        }
    }

    /** The ACTS, and THE TRACE of the latest one. */
    private static final class Actor {
        /** By act, its body for each KIND: its own, or that of the next KIND above. */
        private static final int[] NODS = {1, 11, 1, 1, 11, 51, 1};
        private static final int[] PREACHES = {2, 2, 21, 2, 2, 21, 61};
        private static final int[] TURNS = {3, 3, 3, 31, 41, 3, 31};
        /** Deeper than bodies can stand open in one another. */
        private static final int DEEPEST = 8;

        final int[] bodies = new int[TRACE_MOST];
        int ran;

        int perform(Man m, int act, int x) {
            ran = 0;
            if (m == null || m.kind < 0 || m.kind > LAST_KIND) {
                return 0;
            }
            switch (act) {
                case 0: return run(NODS[m.kind], m, x, 0);
                case 1: return run(PREACHES[m.kind], m, x, 0);
                case 2: return run(TURNS[m.kind], m, x, 0);
                default: return 0;
            }
        }

        private int run(int body, Man m, int x, int depth) {
            if (depth > DEEPEST || m.kind < 0 || m.kind > LAST_KIND) {
                return 0;
            }
            keep(body);
            switch (body) {
                case 1: return x + m.number;
                case 2: return run(NODS[m.kind], m, x, depth + 1) - m.v;
                case 3: return run(PREACHES[m.kind], m, x, depth + 1) * 2;
                case 11: return run(1, m, x * 3, depth + 1);
                case 21: return -run(2, m, x, depth + 1);
                case 31: return run(3, m, x, depth + 1) ^ 7;
                case 41: return run(3, m, x - 1, depth + 1) + run(NODS[m.kind], m, 2, depth + 1);
                case 51: return run(1, m, x, depth + 1) ^ m.number;
                case 61: return run(2, m, x, depth + 1) + m.v;
                default: return 0;
            }
        }

        private void keep(int body) {
            if (ran < TRACE_MOST) {
                bodies[ran] = body;
            }
            ran++;
        }
    }
}
