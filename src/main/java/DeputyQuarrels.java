/**
 * Quarrels by deputies: people on steps who owe one another turns, with grudges. A quarrel of two is
 * handed on to those who owe a turn, till two have it who bear each other no grudge.
 */
public final class DeputyQuarrels {
    public static final int NONE = -1, UNKNOWN = -1001, OUTSIDE = -1002, NOT = -1003, FULL = -1004;

    private static final int PERSONS = 16, TURNS = 40, QUARRELS = 4, PAIRS = 120, STEPS = 10;
    private static final int TEXT = 500, LOGGED = 40, SEEN = 20, BEHIND = 40, IMAGES = 2, DRIFT = 99;
    private static final int LAWS = 4, LAID_ASIDE = 12, OWED_ONCE = 8, MANY = 1000000;

    /**
     * A spot is how one side has a QUARREL: spot p is PERSON p who has it from nobody, spot PERSONS + t the
     * debtor of TURN t who has it from that TURN's creditor. As one who has it from another owes that one a
     * TURN, these few spots are all there can be.
     */
    private static final int SPOTS = PERSONS + TURNS, STATES = SPOTS * SPOTS * 2;

    private static final int WORD_PERSON = 0, WORD_OWES = 1, WORD_GRUDGE = 2, WORD_QUARREL = 3, WORDS = 4;
    private static final int GOES_ON = 0, ENDED = 1, STANDS = 2;
    /** As PEACE's side: neither is for peace. */
    private static final int NEITHER = -1;

    private final Reader reader;
    private final Game game;
    private final Once once;
    private final NewGrudges newGrudges;
    private final Notes notes;
    private final Standing now;
    private final Standing[] images;
    private Town told;
    private Town spare;
    private int faultPlace;

    public DeputyQuarrels() {
        reader = new Reader();
        game = new Game();
        once = new Once();
        newGrudges = new NewGrudges();
        notes = new Notes();
        now = new Standing();
        images = new Standing[IMAGES];
        for (int i = 0; i < images.length; i++) images[i] = new Standing();
        told = new Town();
        spare = new Town();
        faultPlace = NONE;
    }

    // ---- the town

    public int feed(int n, long bytes) {
        if (n < 1 || n > 8) return OUTSIDE;
        if (reader.length + n > TEXT) return FULL;
        for (int i = n - 1; i >= 0; i--) reader.append((int) (bytes >> (8 * i)) & 255);
        return reader.length;
    }

    public int town() {
        int wrong = reader.read(spare);
        faultPlace = reader.wrongAt;
        reader.length = 0;
        if (wrong != 0) return -10 - wrong;
        Town old = told;
        told = spare;
        spare = old;
        now.grudges.take(told.grudges);
        for (int q = 0; q < QUARRELS; q++) {
            Rows.put(now.how, q, toldHow(q));
            Rows.put(now.passed, q, 0);
        }
        notes.empty();
        for (int i = 0; i < IMAGES; i++) {
            Standing image = imageAt(i);
            if (image != null) image.kept = false;
        }
        settle();
        return told.persons;
    }

    public int fault() {
        return faultPlace;
    }

    public int count(int what) {
        switch (what) {
            case 0: return told.persons;
            case 1: return told.turns;
            case 2: return now.grudges.size;
            case 3: return told.quarrels;
            case 4: return reader.length;
            case 5: return notes.logged;
            case 6: return notes.saw;
            default: return OUTSIDE;
        }
    }

    public int person(int p, int what) {
        if (!isPerson(p)) return UNKNOWN;
        switch (what) {
            case 0: return Rows.at(told.steps, p);
            case 1: return told.debtorsOf(p);
            case 2: return told.creditorsOf(p);
            case 3: return Rows.at(now.grudges.foes, p);
            default: return OUTSIDE;
        }
    }

    public int turn(int t, int what) {
        if (!isTurn(t)) return UNKNOWN;
        if (what == 0) return Rows.at(told.debtor, t);
        if (what == 1) return Rows.at(told.creditor, t);
        return OUTSIDE;
    }

    public int grudge(int g) {
        if (g < 0 || g >= now.grudges.size) return UNKNOWN;
        return 100 * Rows.at(now.grudges.first, g) + Rows.at(now.grudges.second, g);
    }

    public int law(int what, int v) {
        int old;
        if (what == 0 && v >= 0 && v < LAWS) {
            old = now.law;
            now.law = v;
        } else if (what == 1 && (v == 0 || v == 1)) {
            old = now.noBack;
            now.noBack = v;
            if (v == 0) forgetFromWhom();
        } else {
            return OUTSIDE;
        }
        settle();
        return old;
    }

    public int bear(int a, int b, boolean is) {
        if (!isPerson(a) || !isPerson(b) || a == b) return UNKNOWN;
        if (now.grudges.has(a, b) == is) return NOT;
        if (is) now.grudges.add(a, b);
        else now.grudges.drop(a, b);
        settle();
        return now.grudges.size;
    }

    // ---- a quarrel

    public int quarrel(int q, int what) {
        if (!isQuarrel(q)) return UNKNOWN;
        int s = Rows.at(now.how, q);
        switch (what) {
            case 0: return game.holder(s, 0);
            case 1: return game.holder(s, 1);
            case 2: return s & 1;
            case 3: return game.fromWhom(s, 0);
            case 4: return game.fromWhom(s, 1);
            case 5: return game.howIs(s);
            case 6: return Rows.at(now.passed, q);
            default: return OUTSIDE;
        }
    }

    public int may(int q) {
        if (!isQuarrel(q)) return UNKNOWN;
        return game.allowed(Rows.at(now.how, q));
    }

    public int hand(int q, int p) {
        if (!isQuarrel(q) || (p != NONE && !isPerson(p))) return UNKNOWN;
        int s = Rows.at(now.how, q);
        if (game.howIs(s) != GOES_ON) return NOT;
        if (p == NONE) return handByDraw(q);
        if ((game.allowed(s) >> p & 1) == 0) return NOT;
        handTo(q, p);
        return p;
    }

    public int begin(int q) {
        if (!isQuarrel(q)) return UNKNOWN;
        int had = Rows.at(now.passed, q);
        Rows.put(now.how, q, toldHow(q));
        Rows.put(now.passed, q, 0);
        return had;
    }

    public int drift(int q, int n) {
        if (!isQuarrel(q)) return UNKNOWN;
        if (n < 1 || n > DRIFT) return OUTSIDE;
        for (int i = 0; i < n && game.howIs(Rows.at(now.how, q)) == GOES_ON; i++) handByDraw(q);
        return game.howIs(Rows.at(now.how, q));
    }

    // ---- what can come

    public int comes(int q, int what) {
        if (!isQuarrel(q)) return UNKNOWN;
        if (what < 0 || what > 4) return OUTSIDE;
        game.solve(Rows.at(now.how, q), NEITHER, true);
        switch (what) {
            case 0: return game.found;
            case 1: return game.endsFound();
            case 2: return game.canStand ? 1 : 0;
            case 3: return game.solvedCount < game.found ? 1 : 0;
            default: return game.holdersFound();
        }
    }

    public int end(int q, int i) {
        if (!isQuarrel(q)) return UNKNOWN;
        game.solve(Rows.at(now.how, q), NEITHER, false);
        return game.endAt(i);
    }

    public int forces(int q, int side) {
        if (!isQuarrel(q)) return UNKNOWN;
        if (!isSide(side)) return OUTSIDE;
        return game.solve(Rows.at(now.how, q), side, false);
    }

    public int best(int q, int side) {
        if (!isQuarrel(q)) return UNKNOWN;
        if (!isSide(side)) return OUTSIDE;
        return game.bestPerson(Rows.at(now.how, q), side);
    }

    public int sure(int q) {
        if (!isQuarrel(q)) return UNKNOWN;
        return game.solve(Rows.at(now.how, q), NEITHER, false);
    }

    public int aside(int q, int side) {
        if (!isQuarrel(q)) return UNKNOWN;
        if (!isSide(side)) return OUTSIDE;
        if (now.grudges.size > LAID_ASIDE) return NOT;
        return fewestLaidAside(Rows.at(now.how, q), side);
    }

    public int fresh(int q, int side, int what) {
        if (!isQuarrel(q)) return UNKNOWN;
        if (!isSide(side) || what < 0 || what > 2) return OUTSIDE;
        newGrudges.seek(game, Rows.at(now.how, q), side);
        if (what == 0) return newGrudges.many;
        return newGrudges.pairTold(what);
    }

    // ---- owed once

    public int most(int what) {
        if (what != 0 && what != 1) return OUTSIDE;
        if (told.turns > OWED_ONCE) return NOT;
        int set = once.mostEnded(game, told, 0);
        return what == 0 ? Integer.bitCount(set) : set;
    }

    public int worth(int t) {
        if (!isTurn(t)) return UNKNOWN;
        if (told.turns > OWED_ONCE) return NOT;
        int with = Integer.bitCount(once.mostEnded(game, told, 0));
        return with - Integer.bitCount(once.mostEnded(game, told, 1 << t));
    }

    // ---- the log, what was seen

    public int log(int from, int to) {
        if (!isPerson(from) || !isPerson(to)) return UNKNOWN;
        if (notes.logged >= LOGGED) return FULL;
        notes.write(from, to);
        return notes.logged;
    }

    public int clear() {
        int had = notes.logged + notes.saw;
        notes.empty();
        return had;
    }

    public int judge(int what) {
        if (what < 0 || what > 2) return OUTSIDE;
        if (told.quarrels == 0) return NOT;
        int s = toldHow(0);
        int wrong = NONE;
        for (int i = 0; i < notes.logged && wrong == NONE; i++) {
            int next = game.afterLogged(s, Rows.at(notes.from, i), Rows.at(notes.to, i));
            if (next == NONE) wrong = i;
            else s = next;
        }
        if (what == 0) return wrong;
        return what == 1 ? 100 * game.holder(s, 0) + game.holder(s, 1) : game.howIs(s);
    }

    public int seen(int k, int p, boolean had) {
        if (!isPerson(p)) return UNKNOWN;
        if (k < 0 || k > BEHIND) return OUTSIDE;
        if (notes.saw >= SEEN) return FULL;
        notes.see(k, p, had);
        return notes.saw;
    }

    public int have(int n) {
        if (n < 0 || n > BEHIND) return OUTSIDE;
        if (told.quarrels == 0) return NOT;
        return game.holdersBehind(toldHow(0), n, notes);
    }

    // ---- draws, images

    public int seed(int v) {
        if (v < 0) return OUTSIDE;
        int old = now.seed;
        now.seed = v;
        return old;
    }

    public int keep(int i) {
        Standing image = imageAt(i);
        if (image == null) return UNKNOWN;
        image.take(now);
        image.kept = true;
        return 1;
    }

    public int goBack(int i) {
        Standing image = imageAt(i);
        if (image == null) return UNKNOWN;
        if (!image.kept) return NOT;
        now.take(image);
        settle();
        return 1;
    }

    // ---- what the calls share

    private boolean isPerson(int p) {
        return p >= 0 && p < told.persons;
    }

    private boolean isTurn(int t) {
        return t >= 0 && t < told.turns;
    }

    private boolean isQuarrel(int q) {
        return q >= 0 && q < told.quarrels;
    }

    private static boolean isSide(int side) {
        return side == 0 || side == 1;
    }

    private Standing imageAt(int i) {
        return images != null && i >= 0 && i < images.length ? images[i] : null;
    }

    private int toldHow(int q) {
        return Game.state(Rows.at(told.side0, q), Rows.at(told.side1, q), 0);
    }

    /** The game works on rows made from town, LAWS and grudges: whoever changes one of these calls this. */
    private void settle() {
        game.ways.build(told, now.law, now.noBack != 0);
        game.takeFoes(now.grudges);
    }

    private void forgetFromWhom() {
        for (int q = 0; q < told.quarrels; q++) {
            int s = Rows.at(now.how, q);
            Rows.put(now.how, q, Game.state(game.holder(s, 0), game.holder(s, 1), s & 1));
        }
    }

    private void handTo(int q, int p) {
        int s = Rows.at(now.how, q);
        setHow(q, game.after(s, game.spotFor(s, p)));
    }

    private int handByDraw(int q) {
        int s = Rows.at(now.how, q);
        int set = game.allowed(s);
        if (set == 0) {
            setHow(q, s ^ 1);
            return NONE;
        }
        int p = Rows.numbered(set, draw(Integer.bitCount(set)));
        handTo(q, p);
        return p;
    }

    private void setHow(int q, int s) {
        Rows.put(now.how, q, s);
        Rows.put(now.passed, q, Rows.at(now.passed, q) + 1);
    }

    private int draw(int n) {
        now.seed = (int) ((now.seed * 1103515245L + 12345L) & 0x7fffffffL);
        return n > 0 ? now.seed / 65536 % n : 0;
    }

    /**
     * Without the grudge of the two who have it the QUARREL is ENDED at once, so one grudge is always enough
     * and no larger SET is tried.
     */
    private int fewestLaidAside(int s, int side) {
        if (game.solve(s, side, false) != NONE) return 0;
        for (int g = 0; g < now.grudges.size && g < LAID_ASIDE; g++) {
            int a = Rows.at(now.grudges.first, g);
            int b = Rows.at(now.grudges.second, g);
            game.toggleFoes(a, b);
            int needed = game.solve(s, side, false);
            game.toggleFoes(a, b);
            if (needed != NONE) return 1 << g;
        }
        return NONE;
    }

    /** Rows and SETS, looked at and written within their bounds alone. */
    private static final class Rows {
        private Rows() {
        }

        static int at(int[] row, int i) {
            return row != null && i >= 0 && i < row.length ? row[i] : 0;
        }

        static long at(long[] row, int i) {
            return row != null && i >= 0 && i < row.length ? row[i] : 0L;
        }

        static void put(int[] row, int i, int v) {
            if (row != null && i >= 0 && i < row.length) row[i] = v;
        }

        static void put(long[] row, int i, long v) {
            if (row != null && i >= 0 && i < row.length) row[i] = v;
        }

        static void fill(int[] row, int v) {
            if (row == null) return;
            for (int i = 0; i < row.length; i++) row[i] = v;
        }

        static void fill(long[] row, long v) {
            if (row == null) return;
            for (int i = 0; i < row.length; i++) row[i] = v;
        }

        static void copy(int[] from, int[] to, int n) {
            for (int i = 0; i < n; i++) put(to, i, at(from, i));
        }

        /** The least that is in a SET which is not empty. */
        static int lowest(long set) {
            return Long.bitCount((set & -set) - 1L);
        }

        /** The one of a SET that has i lesser ones in it. */
        static int numbered(int set, int i) {
            int rest = set;
            for (int k = 0; k < i; k++) rest &= rest - 1;
            return lowest(rest);
        }
    }

    /** Grudges as they are numbered, and for each PERSON with whom it has one. */
    private static final class Grudges {
        final int[] first = new int[PAIRS];
        final int[] second = new int[PAIRS];
        final int[] foes = new int[PERSONS];
        int size;

        void empty() {
            size = 0;
            Rows.fill(foes, 0);
        }

        boolean has(int a, int b) {
            return (Rows.at(foes, a) >> b & 1) != 0;
        }

        void add(int a, int b) {
            if (size >= PAIRS) return;
            Rows.put(first, size, a);
            Rows.put(second, size, b);
            size++;
            toggle(foes, a, b);
        }

        void drop(int a, int b) {
            for (int g = 0; g < size; g++) {
                int x = Rows.at(first, g);
                int y = Rows.at(second, g);
                if ((x == a && y == b) || (x == b && y == a)) {
                    size--;
                    Rows.put(first, g, Rows.at(first, size));
                    Rows.put(second, g, Rows.at(second, size));
                    toggle(foes, a, b);
                    return;
                }
            }
        }

        void take(Grudges other) {
            size = other.size;
            Rows.copy(other.first, first, size);
            Rows.copy(other.second, second, size);
            Rows.copy(other.foes, foes, PERSONS);
        }

        static void toggle(int[] foes, int a, int b) {
            Rows.put(foes, a, Rows.at(foes, a) ^ 1 << b);
            Rows.put(foes, b, Rows.at(foes, b) ^ 1 << a);
        }
    }

    /** THE TOWN as the text tells it. */
    private static final class Town {
        final int[] steps = new int[PERSONS];
        final int[] debtor = new int[TURNS];
        final int[] creditor = new int[TURNS];
        final int[] side0 = new int[QUARRELS];
        final int[] side1 = new int[QUARRELS];
        final Grudges grudges = new Grudges();
        int persons;
        int turns;
        int quarrels;

        void empty() {
            persons = 0;
            turns = 0;
            quarrels = 0;
            grudges.empty();
        }

        boolean isFullFor(int word) {
            return (word == WORD_PERSON && persons >= PERSONS)
                || (word == WORD_OWES && turns >= TURNS)
                || (word == WORD_QUARREL && quarrels >= QUARRELS);
        }

        boolean isToldAlready(int word, int a, int b) {
            if (word == WORD_GRUDGE) return grudges.has(a, b);
            return word == WORD_OWES && (debtorsOf(b) >> a & 1) != 0;
        }

        int debtorsOf(int p) {
            int set = 0;
            for (int t = 0; t < turns; t++) {
                if (Rows.at(creditor, t) == p) set |= 1 << Rows.at(debtor, t);
            }
            return set;
        }

        int creditorsOf(int p) {
            int set = 0;
            for (int t = 0; t < turns; t++) {
                if (Rows.at(debtor, t) == p) set |= 1 << Rows.at(creditor, t);
            }
            return set;
        }

        void addPerson(int step) {
            Rows.put(steps, persons, step);
            persons++;
        }

        void addPair(int word, int a, int b) {
            if (word == WORD_GRUDGE) {
                grudges.add(a, b);
            } else if (word == WORD_OWES) {
                Rows.put(debtor, turns, a);
                Rows.put(creditor, turns, b);
                turns++;
            } else {
                Rows.put(side0, quarrels, a);
                Rows.put(side1, quarrels, b);
                quarrels++;
            }
        }
    }

    /** THE TEXT, and the reading of it up to its first FAULT. */
    private static final class Reader {
        final int[] text = new int[TEXT];
        int length;
        int wrongAt = NONE;
        private int wrong;
        private int place;

        void append(int sign) {
            if (length >= TEXT) return;
            Rows.put(text, length, sign);
            length++;
        }

        /** The number of the FAULT, or 0; what a town with a FAULT holds is of no use. */
        int read(Town town) {
            town.empty();
            wrong = 0;
            wrongAt = NONE;
            place = 0;
            for (int n = 0; n < TEXT && wrong == 0; n++) {
                skipBlanks();
                if (place >= length) break;
                readClause(town);
            }
            return wrong;
        }

        private void readClause(Town town) {
            int from = place;
            int word = readWord();
            if (word == NONE) {
                fail(1, from);
            } else if (town.isFullFor(word)) {
                fail(3, from);
            } else if (word == WORD_PERSON) {
                int step = readNumber(STEPS);
                readClosing();
                if (wrong == 0) town.addPerson(step);
            } else {
                readPair(town, word);
            }
        }

        private void readPair(Town town, int word) {
            int a = readNumber(town.persons);
            skipBlanks();
            int second = place;
            int b = readNumber(town.persons);
            if (wrong == 0 && (a == b || town.isToldAlready(word, a, b))) fail(4, second);
            readClosing();
            if (wrong == 0) town.addPair(word, a, b);
        }

        /** The first FAULT stays, as what stands behind it is not looked at. */
        private void fail(int number, int at) {
            if (wrong != 0) return;
            wrong = number;
            wrongAt = at;
        }

        private int sign(int i) {
            return i < length ? Rows.at(text, i) : NONE;
        }

        private void skipBlanks() {
            for (int n = 0; n < TEXT && sign(place) == ' '; n++) place++;
        }

        private int readWord() {
            int to = place;
            for (int n = 0; n < TEXT && isLetter(sign(to)); n++) to++;
            for (int word = 0; word < WORDS; word++) {
                if (isSpelled(spelling(word), place, to)) {
                    place = to;
                    return word;
                }
            }
            return NONE;
        }

        private boolean isSpelled(String word, int from, int to) {
            if (word.length() != to - from) return false;
            for (int i = 0; i < word.length(); i++) {
                if (sign(from + i) != word.charAt(i)) return false;
            }
            return true;
        }

        private static String spelling(int word) {
            switch (word) {
                case WORD_PERSON: return "person";
                case WORD_OWES: return "owes";
                case WORD_GRUDGE: return "grudge";
                default: return "quarrel";
            }
        }

        private int readNumber(int bound) {
            skipBlanks();
            int from = place;
            int value = 0;
            for (int n = 0; n < TEXT && isFigure(sign(place)); n++) {
                if (n < 2) value = 10 * value + sign(place) - '0';
                place++;
            }
            if (place == from) fail(1, from);
            else if (place - from > 2 || value >= bound) fail(2, from);
            return value;
        }

        private void readClosing() {
            skipBlanks();
            if (sign(place) == ';') place++;
            else fail(1, place);
        }

        private static boolean isLetter(int sign) {
            return sign >= 'a' && sign <= 'z';
        }

        private static boolean isFigure(int sign) {
            return sign >= '0' && sign <= '9';
        }
    }

    /** What an IMAGE keeps. */
    private static final class Standing {
        final int[] how = new int[QUARRELS];
        final int[] passed = new int[QUARRELS];
        final Grudges grudges = new Grudges();
        int law;
        int noBack;
        int seed;
        boolean kept;

        void take(Standing other) {
            Rows.copy(other.how, how, QUARRELS);
            Rows.copy(other.passed, passed, QUARRELS);
            grudges.take(other.grudges);
            law = other.law;
            noBack = other.noBack;
            seed = other.seed;
        }
    }

    /** THE LOG, and what was SEEN. */
    private static final class Notes {
        final int[] from = new int[LOGGED];
        final int[] to = new int[LOGGED];
        int logged;
        int saw;
        private final int[] when = new int[SEEN];
        private final int[] whom = new int[SEEN];
        private final boolean[] had = new boolean[SEEN];

        void empty() {
            logged = 0;
            saw = 0;
        }

        void write(int a, int b) {
            Rows.put(from, logged, a);
            Rows.put(to, logged, b);
            logged++;
        }

        void see(int k, int p, boolean is) {
            if (saw < 0 || saw >= had.length) return;
            Rows.put(when, saw, k);
            Rows.put(whom, saw, p);
            had[saw] = is;
            saw++;
        }

        /** Whether a and b can be those who have it behind k HANDINGS and passes. */
        boolean fits(int k, int a, int b) {
            for (int i = 0; i < saw && i < had.length; i++) {
                if (Rows.at(when, i) != k) continue;
                int p = Rows.at(whom, i);
                if ((p == a || p == b) != had[i]) return false;
            }
            return true;
        }
    }

    /** Who may have it from one, by LAWS: from spot to spot, and back. SETS of spots have bit h for spot h. */
    private static final class Ways {
        final int[] who = new int[SPOTS];
        final int[] from = new int[SPOTS];
        final long[] onward = new long[SPOTS];
        final long[] back = new long[SPOTS];
        final long[] held = new long[PERSONS];
        private boolean noBack;

        void build(Town town, int law, boolean isNoBack) {
            noBack = isNoBack;
            Rows.fill(onward, 0L);
            Rows.fill(back, 0L);
            Rows.fill(held, 0L);
            for (int p = 0; p < PERSONS; p++) setSpot(p, p, NONE);
            for (int t = 0; t < TURNS; t++) {
                if (t < town.turns) setSpot(PERSONS + t, Rows.at(town.debtor, t), Rows.at(town.creditor, t));
                else setSpot(PERSONS + t, NONE, NONE);
            }
            for (int t = 0; t < town.turns; t++) {
                int step = Rows.at(town.steps, Rows.at(town.debtor, t));
                if (isAllowed(law, Rows.at(town.steps, Rows.at(town.creditor, t)), step)) join(t);
            }
        }

        /** The spot that one has by TURN t; from whom is told of under NO BACK alone. */
        int byTurn(int t) {
            return noBack ? PERSONS + t : Rows.at(who, PERSONS + t);
        }

        /** Whether one at this spot may hand it on by TURN t. */
        boolean leadsBy(int spot, int t) {
            if (Rows.at(who, spot) != Rows.at(from, PERSONS + t)) return false;
            return (Rows.at(onward, spot) >> byTurn(t) & 1L) != 0L;
        }

        private void setSpot(int spot, int person, int giver) {
            Rows.put(who, spot, person);
            Rows.put(from, spot, giver);
            if (person != NONE) Rows.put(held, person, Rows.at(held, person) | 1L << spot);
        }

        private static boolean isAllowed(int law, int step, int next) {
            switch (law) {
                case 0: return next == step - 1;
                case 1: return next < step;
                case 2: return true;
                default: return next == step + 1;
            }
        }

        private void join(int t) {
            int debtor = Rows.at(who, PERSONS + t);
            int creditor = Rows.at(from, PERSONS + t);
            int to = byTurn(t);
            int spots = noBack ? SPOTS : PERSONS;
            for (int h = 0; h < spots; h++) {
                if (Rows.at(who, h) != creditor || (noBack && Rows.at(from, h) == debtor)) continue;
                Rows.put(onward, h, Rows.at(onward, h) | 1L << to);
                Rows.put(back, to, Rows.at(back, to) | 1L << h);
            }
        }
    }

    /**
     * All that a QUARREL can be. A state is HOW it is in one number: the two spots and, as the lowest bit,
     * whose turn it is; so a pass makes state s ^ 1 of s.
     */
    private static final class Game {
        /** What a state that was come to needs is kept as 1 more than it is, so that 0 is one not come to yet. */
        private static final int NEW = 0, OPEN = -1, NOTHING = 1;

        final Ways ways = new Ways();
        int found;
        int solvedCount;
        boolean canStand;
        private final int[] foes = new int[PERSONS];
        /** The states that were come to; those that are solved, as they come; each with what it needs. */
        private final int[] states = new int[STATES];
        private final int[] solved = new int[STATES];
        private final int[] needed = new int[STATES];
        /** How many ways on from a state are not solved yet. */
        private final int[] left = new int[STATES];
        private final int[] ends = new int[PERSONS];
        /** Steps are marked by ever greater numbers, beyond all that solve leaves in the row: so none is cleared. */
        private int firstMark;
        private int lastMark = PERSONS;

        static int state(int spot0, int spot1, int turn) {
            return (spot0 * SPOTS + spot1) * 2 + turn;
        }

        void takeFoes(Grudges grudges) {
            Rows.copy(grudges.foes, foes, PERSONS);
        }

        void toggleFoes(int a, int b) {
            Grudges.toggle(foes, a, b);
        }

        static int spot(int s, int side) {
            return side == 0 ? s / 2 / SPOTS : s / 2 % SPOTS;
        }

        int holder(int s, int side) {
            return Rows.at(ways.who, spot(s, side));
        }

        int fromWhom(int s, int side) {
            int h = spot(s, side);
            return h < PERSONS ? NONE : Rows.at(ways.from, h);
        }

        boolean isEnded(int s) {
            int a = Rows.at(ways.who, spot(s, 0));
            int b = Rows.at(ways.who, spot(s, 1));
            return (Rows.at(foes, a) >> b & 1) == 0;
        }

        int howIs(int s) {
            if (isEnded(s)) return ENDED;
            return onwardOf(s) == 0L && onwardOf(s ^ 1) == 0L ? STANDS : GOES_ON;
        }

        /** The spots to which the side whose turn it is may hand it on, if it is not ENDED. */
        long onwardOf(int s) {
            int side = s & 1;
            int other = Rows.at(ways.who, spot(s, 1 - side));
            return Rows.at(ways.onward, spot(s, side)) & ~Rows.at(ways.held, other);
        }

        int after(int s, int spot) {
            return (s & 1) == 0 ? state(spot, spot(s, 1), 1) : state(spot(s, 0), spot, 0);
        }

        /** The SET of PERSONS to whom it may be handed. */
        int allowed(int s) {
            if (isEnded(s)) return 0;
            int set = 0;
            long rest = onwardOf(s);
            for (int n = Long.bitCount(rest); n > 0; n--) {
                set |= 1 << Rows.at(ways.who, Rows.lowest(rest));
                rest &= rest - 1L;
            }
            return set;
        }

        /** The spot at which PERSON p has it, if it is handed on to p. */
        int spotFor(int s, int p) {
            return Rows.lowest(onwardOf(s) & Rows.at(ways.held, p));
        }

        /** The state behind a HANDING as THE LOG tells it, or NONE. */
        int afterLogged(int s, int from, int to) {
            if (howIs(s) != GOES_ON) return NONE;
            int at = onwardOf(s) == 0L ? s ^ 1 : s;
            if (holder(at, at & 1) != from || (allowed(at) >> to & 1) == 0) return NONE;
            return after(at, spotFor(at, to));
        }

        private int neededAt(int s) {
            return Math.max(Rows.at(needed, s) - NOTHING, NONE);
        }

        /**
         * In how many HANDINGS and passes it is ENDED, or NONE. Backwards from the ENDED ones (and those that
         * STAND, if they are to count), in the order of what they need: a state in which PEACE is to choose is
         * solved with the first way on that is, any other with the last.
         */
        int solve(int start, int peace, boolean standingCounts) {
            forget();
            comeTo(start);
            for (int i = 0; i < found && i < STATES; i++) spread(Rows.at(states, i), standingCounts);
            for (int i = 0; i < solvedCount && i < STATES; i++) lookBack(Rows.at(solved, i), peace);
            return neededAt(start);
        }

        private void forget() {
            for (int i = 0; i < found && i < STATES; i++) Rows.put(needed, Rows.at(states, i), NEW);
            found = 0;
            solvedCount = 0;
            canStand = false;
            Rows.fill(ends, 0);
        }

        private void comeTo(int s) {
            if (Rows.at(needed, s) != NEW) return;
            Rows.put(needed, s, OPEN);
            Rows.put(states, found, s);
            found++;
        }

        private void settle(int s, int count) {
            Rows.put(needed, s, count);
            Rows.put(solved, solvedCount, s);
            solvedCount++;
        }

        private void spread(int s, boolean standingCounts) {
            int how = howIs(s);
            long rest = onwardOf(s);
            Rows.put(left, s, Math.max(Long.bitCount(rest), 1));
            if (how == ENDED) {
                int a = holder(s, 0);
                Rows.put(ends, a, Rows.at(ends, a) | 1 << holder(s, 1));
                settle(s, NOTHING);
            } else if (how == STANDS) {
                canStand = true;
                if (standingCounts) settle(s, NOTHING);
            } else if (rest == 0L) {
                comeTo(s ^ 1);
            }
            if (how != GOES_ON) return;
            for (int n = Long.bitCount(rest); n > 0; n--) {
                comeTo(after(s, Rows.lowest(rest)));
                rest &= rest - 1L;
            }
        }

        private void lookBack(int s, int peace) {
            int count = Rows.at(needed, s) + 1;
            int mover = 1 - (s & 1);
            long rest = Rows.at(ways.back, spot(s, mover));
            for (int n = Long.bitCount(rest); n > 0; n--) {
                int spot = Rows.lowest(rest);
                rest &= rest - 1L;
                int before = mover == 0 ? state(spot, spot(s, 1), 0) : state(spot(s, 0), spot, 1);
                if (Rows.at(needed, before) == OPEN) solveOneWay(before, count, peace);
            }
            int passing = s ^ 1;
            if (Rows.at(needed, passing) == OPEN && onwardOf(passing) == 0L && onwardOf(s) != 0L) {
                solveOneWay(passing, count, peace);
            }
        }

        private void solveOneWay(int s, int count, int peace) {
            int open = Rows.at(left, s) - 1;
            Rows.put(left, s, open);
            if ((s & 1) == peace || open == 0) settle(s, count);
        }

        int endsFound() {
            int sum = 0;
            for (int a = 0; a < PERSONS; a++) sum += Integer.bitCount(Rows.at(ends, a));
            return sum;
        }

        int endAt(int i) {
            int ahead = i;
            for (int a = 0; a < PERSONS && ahead >= 0; a++) {
                int set = Rows.at(ends, a);
                int size = Integer.bitCount(set);
                if (ahead < size) return 100 * a + Rows.numbered(set, ahead);
                ahead -= size;
            }
            return NONE;
        }

        int holdersFound() {
            int set = 0;
            for (int i = 0; i < found && i < STATES; i++) set |= holders(Rows.at(states, i));
            return set;
        }

        private int holders(int s) {
            return 1 << holder(s, 0) | 1 << holder(s, 1);
        }

        int bestPerson(int s, int peace) {
            solve(s, peace, false);
            boolean isPeace = (s & 1) == peace;
            boolean isForced = neededAt(s) != NONE;
            int set = allowed(s);
            int bestOne = NONE;
            int most = 0;
            for (int p = 0; p < PERSONS; p++) {
                if ((set >> p & 1) == 0) continue;
                int needs = neededAt(after(s, spotFor(s, p)));
                if (needs == NONE) needs = MANY;
                int worth = isPeace ? (isForced ? -needs : 0) : needs;
                if (bestOne == NONE || worth > most) {
                    bestOne = p;
                    most = worth;
                }
            }
            return bestOne;
        }

        /**
         * Marks in a row of SETS, at the lesser PERSON the greater, the pairs with whom it can be ENDED if PEACE,
         * which FORCES, always takes the shortest way. It is called behind solve, whose rows it uses again.
         */
        void followPeace(int start, int peace, int[] met) {
            Rows.fill(met, 0);
            for (int i = 0; i < found && i < STATES; i++) Rows.put(left, Rows.at(states, i), 0);
            solvedCount = 0;
            walkTo(start);
            for (int i = 0; i < solvedCount && i < STATES; i++) {
                int s = Rows.at(solved, i);
                if (isEnded(s)) mark(met, holder(s, 0), holder(s, 1));
                else walkOn(s, peace);
            }
        }

        private static void mark(int[] met, int a, int b) {
            int lesser = Math.min(a, b);
            Rows.put(met, lesser, Rows.at(met, lesser) | 1 << Math.max(a, b));
        }

        private void walkOn(int s, int peace) {
            long rest = onwardOf(s);
            if (rest == 0L) walkTo(s ^ 1);
            for (int n = Long.bitCount(rest); n > 0; n--) {
                int next = after(s, Rows.lowest(rest));
                rest &= rest - 1L;
                boolean isShortest = neededAt(next) == neededAt(s) - 1;
                if ((s & 1) != peace || isShortest) walkTo(next);
                if ((s & 1) == peace && isShortest) return;
            }
        }

        private void walkTo(int s) {
            if (Rows.at(left, s) != 0) return;
            Rows.put(left, s, 1);
            Rows.put(solved, solvedCount, s);
            solvedCount++;
        }

        /** Whole rows of states, one step after the other. */
        int holdersBehind(int start, int n, Notes notes) {
            forget();
            firstMark = lastMark + 1;
            lastMark = firstMark + n;
            int[] row = states;
            int[] next = solved;
            int size = putIfFits(row, 0, start, 0, notes);
            for (int k = 1; k <= n; k++) {
                int more = 0;
                for (int i = 0; i < size && i < STATES; i++) {
                    more = putOnward(next, more, Rows.at(row, i), k, notes);
                }
                int[] old = row;
                row = next;
                next = old;
                size = more;
            }
            int set = 0;
            for (int i = 0; i < size && i < STATES; i++) set |= holders(Rows.at(row, i));
            return set;
        }

        private int putOnward(int[] row, int size, int s, int k, Notes notes) {
            if (howIs(s) != GOES_ON) return putIfFits(row, size, s, k, notes);
            long rest = onwardOf(s);
            if (rest == 0L) return putIfFits(row, size, s ^ 1, k, notes);
            int more = size;
            for (int n = Long.bitCount(rest); n > 0; n--) {
                more = putIfFits(row, more, after(s, Rows.lowest(rest)), k, notes);
                rest &= rest - 1L;
            }
            return more;
        }

        private int putIfFits(int[] row, int size, int s, int k, Notes notes) {
            if (Rows.at(left, s) == firstMark + k || !notes.fits(k, holder(s, 0), holder(s, 1))) return size;
            Rows.put(left, s, firstMark + k);
            Rows.put(row, size, s);
            return size + 1;
        }
    }

    /** The fewest grudges more, with which PEACE does not FORCE. A pair is 16 times the lesser and the greater. */
    private static final class NewGrudges {
        private static final int ALL_PAIRS = PERSONS * PERSONS;

        int many;
        private int first;
        private int second;
        private final int[] met = new int[PERSONS];
        private final int[] metBesides = new int[PERSONS];

        int pairTold(int what) {
            int pair = what == 1 ? first : second;
            return pair == NONE ? NONE : 100 * (pair / PERSONS) + pair % PERSONS;
        }

        /**
         * Grudges of pairs that PEACE's way never ends at don't hinder that way. So one of the new ones must be of
         * a pair that it ends at, and another of a pair that PEACE's way with the one ends at. Two that the first
         * way ends at are looked at once, from the lesser.
         */
        void seek(Game game, int s, int side) {
            first = NONE;
            second = NONE;
            many = 0;
            if (game.solve(s, side, false) == NONE) return;
            many = NONE;
            seekBesides(game, s, side, NONE);
            if (many != NONE) return;
            for (int pair = 0; pair < ALL_PAIRS; pair++) {
                if (isIn(met, pair)) seekBesides(game, s, side, pair);
            }
        }

        private static boolean isIn(int[] pairs, int pair) {
            return (Rows.at(pairs, pair / PERSONS) >> pair % PERSONS & 1) != 0;
        }

        private static void toggle(Game game, int pair) {
            if (pair != NONE) game.toggleFoes(pair / PERSONS, pair % PERSONS);
        }

        /** Looks for a pair besides one (or NONE), with whose grudge PEACE still FORCES. */
        private void seekBesides(Game game, int s, int side, int one) {
            int[] row = one == NONE ? met : metBesides;
            toggle(game, one);
            game.solve(s, side, false);
            game.followPeace(s, side, row);
            for (int pair = 0; pair < ALL_PAIRS; pair++) {
                if (!isIn(row, pair) || (pair < one && isIn(met, pair)) || !isAhead(one, pair)) continue;
                toggle(game, pair);
                if (game.solve(s, side, false) == NONE) take(one, pair);
                toggle(game, pair);
            }
            toggle(game, one);
        }

        /** Whether the two, if they are enough, are ahead of those that were found. */
        private boolean isAhead(int one, int pair) {
            if (many == NONE) return true;
            int lesser = Math.min(one, pair);
            return one != NONE && (lesser < first || (lesser == first && Math.max(one, pair) < second));
        }

        private void take(int one, int pair) {
            many = one == NONE ? 1 : 2;
            first = one == NONE ? pair : Math.min(one, pair);
            second = one == NONE ? NONE : Math.max(one, pair);
        }
    }

    /**
     * TURNS that are owed but once. While one QUARREL is carried on, a side's place is 0 (as told) or 1 + t,
     * t being the TURN by which it came to the one who has it.
     */
    private static final class Once {
        private static final int USES = 1 << OWED_ONCE, PLACES = 1 + OWED_ONCE, DEEPEST = 2 * OWED_ONCE + 1;

        /** For each SET of QUARRELS that were ENDED: the SETS of TURNS that can have been used for it. */
        private final long[] reached = new long[(1 << QUARRELS) * USES / 64];
        private final long[] visited = new long[PLACES * PLACES * 2 * USES / 64];
        private int turns;
        private int told0;
        private int told1;
        private int goal;

        /** The SET of THE MOST that can be ENDED, if some TURNS are used already. */
        int mostEnded(Game game, Town town, int used) {
            turns = Math.min(town.turns, OWED_ONCE);
            Rows.fill(reached, 0L);
            putBit(reached, used);
            int most = 0;
            for (int set = 0; set < 1 << town.quarrels; set++) {
                if (!isReached(set)) continue;
                if (Integer.bitCount(set) > Integer.bitCount(most)) most = set;
                for (int q = 0; q < town.quarrels; q++) {
                    if ((set >> q & 1) == 0) carryOneMore(game, town, set, q);
                }
            }
            return most;
        }

        private boolean isReached(int set) {
            for (int i = 0; i < USES / 64; i++) {
                if (Rows.at(reached, set * (USES / 64) + i) != 0L) return true;
            }
            return false;
        }

        private void carryOneMore(Game game, Town town, int set, int q) {
            Rows.fill(visited, 0L);
            told0 = Rows.at(town.side0, q);
            told1 = Rows.at(town.side1, q);
            goal = set | 1 << q;
            for (int used = 0; used < 1 << turns; used++) {
                if (hasBit(reached, set * USES + used)) carry(game, 0, 0, used, 0);
            }
        }

        /** Two passes never follow one another, so with each TURN used but once it cannot go deep. */
        private void carry(Game game, int place0, int place1, int used, int depth) {
            int turn = depth & 1;
            int number = ((place0 * PLACES + place1) * 2 + turn) * USES + used;
            if (depth > DEEPEST || hasBit(visited, number)) return;
            putBit(visited, number);
            int s = Game.state(spotAt(game, place0, told0), spotAt(game, place1, told1), turn);
            if (game.isEnded(s)) {
                putBit(reached, goal * USES + used);
                return;
            }
            int usable = usable(game, s, used);
            if (usable == 0 && usable(game, s ^ 1, used) != 0) carry(game, place0, place1, used, depth + 1);
            for (int t = 0; t < turns; t++) {
                if ((usable >> t & 1) == 0) continue;
                if (turn == 0) carry(game, t + 1, place1, used | 1 << t, depth + 1);
                else carry(game, place0, t + 1, used | 1 << t, depth + 1);
            }
        }

        private static int spotAt(Game game, int place, int told) {
            return place == 0 ? told : game.ways.byTurn(place - 1);
        }

        /** The SET of TURNS not used yet by which the side whose turn it is may hand it on. */
        private int usable(Game game, int s, int used) {
            int side = s & 1;
            int other = game.holder(s, 1 - side);
            int set = 0;
            for (int t = 0; t < turns; t++) {
                if ((used >> t & 1) != 0 || Rows.at(game.ways.who, PERSONS + t) == other) continue;
                if (game.ways.leadsBy(Game.spot(s, side), t)) set |= 1 << t;
            }
            return set;
        }

        private static boolean hasBit(long[] row, int i) {
            return (Rows.at(row, i >> 6) >> (i & 63) & 1L) != 0L;
        }

        private static void putBit(long[] row, int i) {
            Rows.put(row, i >> 6, Rows.at(row, i >> 6) | 1L << (i & 63));
        }
    }
}
