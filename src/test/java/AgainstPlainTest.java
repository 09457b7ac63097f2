import java.util.Random;

/** Runs of calls by chance on the class and on Plain: every answer must be the same. */
public final class AgainstPlainTest {
    private static final int RUNS = Integer.getInteger("runs", 3000), FROM = Integer.getInteger("from", 0);
    private static int wrong;
    private static long calls;
    private static final long[][] kinds = new long[32][6];

    private Random chance;
    private DeputyQuarrels x;
    private Plain y;
    private StringBuilder story;
    private int persons, turns, quarrels, size;

    public static void main(String[] args) {
        for (int run = FROM; run < FROM + RUNS && wrong < 5; run++) new AgainstPlainTest().play(run);
        if (args.length > 0) tellKinds();
        System.out.println(calls + " calls, " + wrong + " wrong");
        if (wrong != 0) System.exit(1);
    }

    private static void tellKinds() {
        for (int i = 0; i < 32; i++) {
            System.out.println(i + ": positive " + kinds[i][0] + ", 0 " + kinds[i][1] + ", NONE " + kinds[i][2]
                + ", UNKNOWN " + kinds[i][3] + ", OUTSIDE " + kinds[i][4] + ", other " + kinds[i][5]);
        }
    }

    private void play(int run) {
        chance = new Random(run);
        x = new DeputyQuarrels();
        y = new Plain();
        story = new StringBuilder();
        size = run % 7;
        int before = wrong;
        if (chance.nextInt(4) == 0) some(5);
        for (int part = 0; part < 3 && wrong == before; part++) {
            if (chance.nextInt(6) == 0) brokenTown();
            goodTown();
            some(chance.nextInt(60));
        }
        if (wrong != before) System.out.println("run " + run + ":\n" + story);
    }

    private int below(int n) {
        return chance.nextInt(n);
    }

    private void tell(String text) {
        for (int i = 0; i < text.length() && wrong == 0; i += 8) {
            int n = Math.min(8, text.length() - i);
            long bytes = chance.nextLong();
            for (int k = 0; k < n; k++) bytes = bytes << 8 | text.charAt(i + k);
            due("feed", 1, x.feed(n, bytes), y.feed(n, bytes), n, bytes);
        }
    }

    private String blanks() {
        return below(12) == 0 ? " ".repeat(below(3)) : "";
    }

    private String number(int v) {
        return blanks() + (v < 10 && below(15) == 0 ? "0" : "") + v + blanks();
    }

    private String townText() {
        persons = size == 6 ? 10 + below(7) : size == 5 ? 7 + below(4) : 2 + below(5);
        StringBuilder s = new StringBuilder();
        int levels = 1 + below(4);
        for (int p = 0; p < persons; p++) s.append("person").append(number(below(levels) + (below(19) == 0 ? 6 : 0))).append(';');
        turns = Math.min(below(3) == 0 ? below(9) : persons + below(2 * persons), size == 6 ? 20 : 40);
        boolean[] owed = new boolean[256], grudges = new boolean[256];
        int many = 0;
        for (int i = 0; i < turns; i++) {
            int a = below(persons), b = below(persons);
            if (a == b || owed[16 * a + b]) continue;
            owed[16 * a + b] = true;
            s.append("owes").append(number(a)).append(' ').append(number(b)).append(';');
            many++;
        }
        turns = many;
        int grudge = Math.min(below(3) == 0 ? below(persons * persons / 2 + 1) : persons * persons / 2 + below(9), 30);
        for (int i = 0; i < grudge; i++) {
            int a = below(persons), b = below(persons);
            if (a == b || grudges[16 * a + b]) continue;
            grudges[16 * a + b] = grudges[16 * b + a] = true;
            s.append("grudge").append(number(a)).append(' ').append(number(b)).append(';');
        }
        quarrels = below(5);
        for (int q = 0; q < quarrels; q++) {
            int a = 0, b = 1;
            for (int i = 0; i < 5 && (i == 0 || !grudges[16 * a + b]); i++) {
                a = below(persons);
                b = (a + 1 + below(persons - 1)) % persons;
            }
            s.append("quarrel").append(number(a)).append(' ').append(number(b)).append(';');
        }
        return s.toString();
    }

    private void goodTown() {
        String text = townText();
        tell(text);
        due("town", 2, x.town(), y.town());
        due("fault", 3, x.fault(), y.fault());
        for (int i = 0; i < 2; i++) {
            int v = below(i == 0 ? 4 : 2);
            if (below(2) == 0) due("law", 8, x.law(i, v), y.law(i, v), i, v);
            else due("law", 8, x.law(0, 2), y.law(0, 2), 0, 2);
        }
    }

    private void brokenTown() {
        StringBuilder s = new StringBuilder(townText());
        for (int i = below(3); i >= 0 && s.length() > 0; i--) {
            int at = below(s.length());
            switch (below(6)) {
                case 0: s.setLength(at + 1); break;
                case 1: s.deleteCharAt(at); break;
                case 2: s.insert(at, " ;0123456789aprsonwegudl.\tP\u00e9".charAt(below(28))); break;
                case 3: s.setCharAt(at, " ;0123456789aprsonwegudl.\tP\u0000".charAt(below(28))); break;
                case 4: s.insert(0, "person 0;".repeat(17)); break;
                default: s.append("quarrel 0 1;owes 1 0;grudge 0 1;"); break;
            }
        }
        tell(s.length() > 500 ? s.substring(0, 500) : s.toString());
        due("town", 2, x.town(), y.town());
        due("fault", 3, x.fault(), y.fault());
        for (int i = 0; i < 7; i++) due("count", 4, x.count(i), y.count(i), i);
    }

    private int any(int n) {
        return below(25) == 0 ? below(n + 4) - 2 : below(Math.max(n, 1));
    }

    private void some(int n) {
        for (int i = 0; i < n && wrong == 0; i++) one(4 + below(29), any(4), any(persons), any(persons), any(2));
    }

    private void one(int call, int q, int a, int b, int side) {
        int v = any(7);
        boolean is = below(2) == 0;
        if (quarrels > 0 && below(15) != 0) q = below(quarrels);
        switch (call) {
            case 4: due("count", 4, x.count(v), y.count(v), v); break;
            case 5: due("person", 5, x.person(a, v % 5), y.person(a, v % 5), a, v % 5); break;
            case 6: due("turn", 6, x.turn(v, side), y.turn(v, side), v, side); break;
            case 7: due("grudge", 7, x.grudge(v), y.grudge(v), v); break;
            case 8: v = any(side == 0 ? 4 : 2); due("law", 8, x.law(side, v), y.law(side, v), side, v); break;
            case 9: due("bear", 9, x.bear(a, b, is), y.bear(a, b, is), a, b, is); break;
            case 10: due("quarrel", 10, x.quarrel(q, v), y.quarrel(q, v), q, v); break;
            case 11: due("may", 11, x.may(q), y.may(q), q); break;
            case 12: a = handee(q, a); due("hand", 12, x.hand(q, a), y.hand(q, a), q, a); break;
            case 13: due("begin", 13, x.begin(q), y.begin(q), q); break;
            case 14: due("drift", 14, x.drift(q, v), y.drift(q, v), q, v); break;
            case 15: v = any(5); due("comes", 15, x.comes(q, v), y.comes(q, v), q, v); break;
            case 16: due("end", 16, x.end(q, v), y.end(q, v), q, v); break;
            case 17: due("forces", 17, x.forces(q, side), y.forces(q, side), q, side); break;
            case 18: due("best", 18, x.best(q, side), y.best(q, side), q, side); break;
            case 19: due("sure", 19, x.sure(q), y.sure(q), q); break;
            case 20: due("aside", 20, x.aside(q, side), y.aside(q, side), q, side); break;
            case 21: v = any(3); due("fresh", 21, x.fresh(q, side, v), y.fresh(q, side, v), q, side, v); break;
            case 22: due("most", 22, x.most(side), y.most(side), side); break;
            case 23: v = any(Math.min(turns, 9)); due("worth", 23, x.worth(v), y.worth(v), v); break;
            case 24: logSome(a, b); break;
            case 25: due("clear", 25, x.clear(), y.clear()); break;
            case 26: v = any(3); due("judge", 26, x.judge(v), y.judge(v), v); break;
            case 27: due("seen", 27, x.seen(v, a, is), y.seen(v, a, is), v, a, is); break;
            case 28: if (below(5) == 0) v = any(41); due("have", 28, x.have(v), y.have(v), v); break;
            case 29: v = chance.nextInt(); due("seed", 29, x.seed(v), y.seed(v), v); break;
            case 30: due("keep", 30, x.keep(side), y.keep(side), side); break;
            case 31: due("goBack", 31, x.goBack(side), y.goBack(side), side); break;
            default: for (int i = 0; i < 7; i++) due("quarrel", 10, x.quarrel(q, i), y.quarrel(q, i), q, i); break;
        }
    }

    private int handee(int q, int a) {
        if (below(3) == 0) return DeputyQuarrels.NONE;
        int set = x.may(q);
        return set > 0 && below(4) != 0 ? Integer.numberOfTrailingZeros(set) : a;
    }

    /** Handings that mostly may be: played by chance on one more object of the plain kind would be too dear. */
    private void logSome(int a, int b) {
        due("log", 24, x.log(a, b), y.log(a, b), a, b);
        if (below(3) != 0 || y.quarrel(0, 0) < 0) return;
        due("clear", 25, x.clear(), y.clear());
        due("keep", 30, x.keep(1), y.keep(1), 1);
        due("begin", 13, x.begin(0), y.begin(0), 0);
        for (int i = below(7); i >= 0 && y.quarrel(0, 5) == 0; i--) {
            int from = y.quarrel(0, y.quarrel(0, 2));
            int to = y.hand(0, -1);
            due("hand", 12, x.hand(0, -1), to, 0, -1);
            if (to >= 0) due("log", 24, x.log(from, to), y.log(from, to), from, to);
        }
        if (below(3) == 0) due("log", 24, x.log(a, b), y.log(a, b), a, b);
        for (int i = 0; i < 3; i++) due("judge", 26, x.judge(i), y.judge(i), i);
        due("goBack", 31, x.goBack(1), y.goBack(1), 1);
    }

    private void due(String call, int kind, int got, int want, Object... with) {
        calls++;
        story.append(call).append(java.util.Arrays.toString(with)).append(" = ").append(want).append('\n');
        int k = want > 0 ? 0 : want == 0 ? 1 : want == -1 ? 2 : want == -1001 ? 3 : want == -1002 ? 4 : 5;
        kinds[kind - 1][k]++;
        if (got == want) return;
        wrong++;
        story.append("  but answered ").append(got).append('\n');
    }
}
