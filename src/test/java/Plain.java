import java.util.ArrayDeque;
import java.util.ArrayList;
import java.util.Deque;
import java.util.HashMap;
import java.util.HashSet;
import java.util.List;
import java.util.Map;
import java.util.Set;
import java.util.TreeSet;
import java.util.regex.Matcher;
import java.util.regex.Pattern;

/**
 * The document once more, as plainly and slowly as can be, to compare the class with. It shares no code and as
 * few thoughts as possible with it: sets of records, rounds till nothing changes, every subset tried.
 */
final class Plain {
    static final int NONE = -1, UNKNOWN = -1001, OUTSIDE = -1002, NOT = -1003, FULL = -1004;

    record How(int a, int b, int turn, int fromA, int fromB) {
        int has(int side) {
            return side == 0 ? a : b;
        }

        int from(int side) {
            return side == 0 ? fromA : fromB;
        }
    }

    record Pair(int a, int b) {
        boolean isOf(int x, int y) {
            return (a == x && b == y) || (a == y && b == x);
        }
    }

    record Sight(int k, int p, boolean had) { }

    record Image(List<How> how, List<Integer> passed, List<Pair> grudges, int law, int noBack, int seed) { }

    private record Token(char kind, String word, int place) { }

    private String text = "";
    private int faultPlace = NONE;
    private List<Integer> steps = new ArrayList<>();
    private List<Pair> turns = new ArrayList<>();
    private List<Pair> grudges = new ArrayList<>();
    private List<Pair> told = new ArrayList<>();
    private List<How> how = new ArrayList<>();
    private List<Integer> passed = new ArrayList<>();
    private final List<Pair> log = new ArrayList<>();
    private final List<Sight> sights = new ArrayList<>();
    private final Image[] images = new Image[2];
    private int law, noBack, seed;

    // ---- the town

    int feed(int n, long bytes) {
        if (n < 1 || n > 8) return OUTSIDE;
        if (text.length() + n > 500) return FULL;
        String more = "";
        for (int i = 0; i < n; i++) {
            more = (char) (bytes & 255) + more;
            bytes >>>= 8;
        }
        text += more;
        return text.length();
    }

    int town() {
        List<Integer> newSteps = new ArrayList<>();
        List<Pair> newTurns = new ArrayList<>(), newGrudges = new ArrayList<>(), newTold = new ArrayList<>();
        TreeSet<Integer> faults = new TreeSet<>();
        faultsOf(text, newSteps, newTurns, newGrudges, newTold, faults);
        text = "";
        if (!faults.isEmpty()) {
            faultPlace = faults.first() / 10;
            return -10 - faults.first() % 10;
        }
        faultPlace = NONE;
        steps = newSteps;
        turns = newTurns;
        grudges = newGrudges;
        told = newTold;
        how = new ArrayList<>();
        passed = new ArrayList<>();
        for (int q = 0; q < told.size(); q++) {
            how.add(asTold(q));
            passed.add(0);
        }
        log.clear();
        sights.clear();
        images[0] = images[1] = null;
        return steps.size();
    }

    private static void faultsOf(String text, List<Integer> steps, List<Pair> turns, List<Pair> grudges,
            List<Pair> told, TreeSet<Integer> faults) {
        List<Token> tokens = new ArrayList<>();
        Matcher m = Pattern.compile("[a-z]+|[0-9]+|[^ ]", Pattern.DOTALL).matcher(text);
        while (m.find()) {
            char c = m.group().charAt(0);
            tokens.add(new Token(Character.isLowerCase(c) && c < 128 ? 'w' : c >= '0' && c <= '9' ? 'n' : c,
                m.group(), m.start()));
        }
        tokens.add(new Token('$', "", text.length()));
        int i = 0;
        while (tokens.get(i).kind != '$') {
            Token word = tokens.get(i);
            if (!List.of("person", "owes", "grudge", "quarrel").contains(word.word)) {
                faults.add(word.place * 10 + 1);
                return;
            }
            if ((word.word.equals("person") && steps.size() == 16) || (word.word.equals("owes") && turns.size() == 40)
                || (word.word.equals("quarrel") && told.size() == 4)) faults.add(word.place * 10 + 3);
            String shape = word.word.equals("person") ? "n;" : "nn;";
            int[] value = new int[3];
            for (int k = 0; k < shape.length(); k++) {
                Token next = tokens.get(i + 1 + k);
                if (next.kind != shape.charAt(k)) {
                    faults.add(next.place * 10 + 1);
                    return;
                }
                if (next.kind != 'n') continue;
                value[k] = next.word.length() > 2 ? 1000 : Integer.parseInt(next.word);
                if (value[k] >= (word.word.equals("person") ? 10 : steps.size())) faults.add(next.place * 10 + 2);
                boolean again = word.word.equals("owes") ? turns.contains(new Pair(value[0], value[1]))
                    : word.word.equals("grudge") && bears(grudges, value[0], value[1]);
                if (k == 1 && (again || value[0] == value[1])) faults.add(next.place * 10 + 4);
            }
            Pair pair = new Pair(value[0], value[1]);
            switch (word.word) {
                case "person" -> steps.add(value[0]);
                case "owes" -> turns.add(pair);
                case "grudge" -> grudges.add(pair);
                default -> told.add(pair);
            }
            if (!faults.isEmpty()) return;
            i += 1 + shape.length();
        }
    }

    int fault() {
        return faultPlace;
    }

    int count(int what) {
        if (what < 0 || what > 6) return OUTSIDE;
        return List.of(steps.size(), turns.size(), grudges.size(), told.size(), text.length(), log.size(),
            sights.size()).get(what);
    }

    int person(int p, int what) {
        if (noPerson(p)) return UNKNOWN;
        if (what < 0 || what > 3) return OUTSIDE;
        if (what == 0) return steps.get(p);
        int set = 0;
        for (int o = 0; o < steps.size(); o++) {
            if (what == 1 && turns.contains(new Pair(o, p))) set += 1 << o;
            if (what == 2 && turns.contains(new Pair(p, o))) set += 1 << o;
            if (what == 3 && bears(grudges, p, o)) set += 1 << o;
        }
        return set;
    }

    int turn(int t, int what) {
        if (t < 0 || t >= turns.size()) return UNKNOWN;
        if (what < 0 || what > 1) return OUTSIDE;
        return what == 0 ? turns.get(t).a : turns.get(t).b;
    }

    int grudge(int g) {
        if (g < 0 || g >= grudges.size()) return UNKNOWN;
        return 100 * grudges.get(g).a + grudges.get(g).b;
    }

    int law(int what, int v) {
        if (what < 0 || what > 1 || v < 0 || v > (what == 0 ? 3 : 1)) return OUTSIDE;
        int old = what == 0 ? law : noBack;
        if (what == 0) law = v;
        else noBack = v;
        if (noBack == 0) how.replaceAll(h -> new How(h.a, h.b, h.turn, NONE, NONE));
        return old;
    }

    int bear(int a, int b, boolean is) {
        if (noPerson(a) || noPerson(b) || a == b) return UNKNOWN;
        if (bears(grudges, a, b) == is) return NOT;
        if (is) {
            grudges.add(new Pair(a, b));
        } else {
            for (int g = 0; g < grudges.size(); g++) {
                if (!grudges.get(g).isOf(a, b)) continue;
                Pair last = grudges.remove(grudges.size() - 1);
                if (g < grudges.size()) grudges.set(g, last);
            }
        }
        return grudges.size();
    }

    // ---- a quarrel

    int quarrel(int q, int what) {
        if (noQuarrel(q)) return UNKNOWN;
        if (what < 0 || what > 6) return OUTSIDE;
        How h = how.get(q);
        return List.of(h.a, h.b, h.turn, h.fromA, h.fromB, howIs(h, grudges), passed.get(q)).get(what);
    }

    int may(int q) {
        if (noQuarrel(q)) return UNKNOWN;
        How h = how.get(q);
        return howIs(h, grudges) != 0 ? 0 : setOf(mayHave(h, h.turn, -1));
    }

    int hand(int q, int p) {
        if (noQuarrel(q) || (p != NONE && noPerson(p))) return UNKNOWN;
        How h = how.get(q);
        if (howIs(h, grudges) != 0) return NOT;
        List<Integer> those = mayHave(h, h.turn, -1);
        if (p == NONE && !those.isEmpty()) {
            seed = (int) ((seed * 1103515245L + 12345L) % (1L << 31));
            p = those.get(seed / 65536 % those.size());
        }
        if (p != NONE && !those.contains(p)) return NOT;
        how.set(q, p == NONE ? passing(h) : handed(h, p));
        passed.set(q, passed.get(q) + 1);
        return p;
    }

    int begin(int q) {
        if (noQuarrel(q)) return UNKNOWN;
        how.set(q, asTold(q));
        return passed.set(q, 0);
    }

    int drift(int q, int n) {
        if (noQuarrel(q)) return UNKNOWN;
        if (n < 1 || n > 99) return OUTSIDE;
        for (int i = 0; i < n; i++) hand(q, NONE);
        return howIs(how.get(q), grudges);
    }

    // ---- what can come

    int comes(int q, int what) {
        if (noQuarrel(q)) return UNKNOWN;
        if (what < 0 || what > 4) return OUTSIDE;
        Set<How> all = comeTo(List.of(how.get(q)), grudges);
        if (what == 0) return all.size();
        if (what == 1) return endsOf(all).size();
        int persons = 0, stands = 0, rounds = 0;
        for (How h : all) {
            persons |= 1 << h.a | 1 << h.b;
            if (howIs(h, grudges) == 2) stands = 1;
            if (what == 3 && comeTo(next(h, grudges), grudges).contains(h)) rounds = 1;
        }
        return what == 2 ? stands : what == 3 ? rounds : persons;
    }

    int end(int q, int i) {
        if (noQuarrel(q)) return UNKNOWN;
        List<Integer> ends = new ArrayList<>(endsOf(comeTo(List.of(how.get(q)), grudges)));
        return i < 0 || i >= ends.size() ? NONE : ends.get(i);
    }

    int forces(int q, int side) {
        if (noQuarrel(q)) return UNKNOWN;
        if (side < 0 || side > 1) return OUTSIDE;
        return needed(how.get(q), side, grudges);
    }

    int best(int q, int side) {
        if (noQuarrel(q)) return UNKNOWN;
        if (side < 0 || side > 1) return OUTSIDE;
        How h = how.get(q);
        if (howIs(h, grudges) != 0) return NONE;
        int bestOne = NONE, bestNeeds = 0;
        boolean forced = needed(h, side, grudges) != NONE;
        for (int p : mayHave(h, h.turn, -1)) {
            int needs = needed(handed(h, p), side, grudges);
            boolean better;
            if (h.turn == side) better = forced && needs != NONE && (bestNeeds == NONE || needs < bestNeeds);
            else better = bestNeeds != NONE && (needs == NONE || needs > bestNeeds);
            if (bestOne == NONE || better) {
                bestOne = p;
                bestNeeds = needs;
            }
        }
        return bestOne;
    }

    int sure(int q) {
        if (noQuarrel(q)) return UNKNOWN;
        return needed(how.get(q), 2, grudges);
    }

    int aside(int q, int side) {
        if (noQuarrel(q)) return UNKNOWN;
        if (side < 0 || side > 1) return OUTSIDE;
        int n = grudges.size();
        if (n > 12) return NOT;
        for (int size = 0; size <= n; size++) {
            for (int set = 0; set < 1 << n; set++) {
                if (Integer.bitCount(set) != size) continue;
                List<Pair> without = new ArrayList<>();
                for (int g = 0; g < n; g++) if ((set >> g & 1) == 0) without.add(grudges.get(g));
                if (needed(how.get(q), side, without) != NONE) return set;
            }
        }
        return NONE;
    }

    int fresh(int q, int side, int what) {
        if (noQuarrel(q)) return UNKNOWN;
        if (side < 0 || side > 1 || what < 0 || what > 2) return OUTSIDE;
        How h = how.get(q);
        if (needed(h, side, grudges) == NONE) return what == 0 ? 0 : NONE;
        List<Pair> pairs = new ArrayList<>();
        for (int a = 0; a < steps.size(); a++) {
            for (int b = a + 1; b < steps.size(); b++) if (!bears(grudges, a, b)) pairs.add(new Pair(a, b));
        }
        for (Pair x : pairs) {
            List<Pair> with = new ArrayList<>(grudges);
            with.add(x);
            if (needed(h, side, with) == NONE) return what == 0 ? 1 : what == 1 ? 100 * x.a + x.b : NONE;
        }
        for (Pair x : pairs) {
            for (Pair y : pairs.subList(pairs.indexOf(x) + 1, pairs.size())) {
                List<Pair> with = new ArrayList<>(grudges);
                with.add(x);
                with.add(y);
                if (needed(h, side, with) != NONE) continue;
                return what == 0 ? 2 : what == 1 ? 100 * x.a + x.b : 100 * y.a + y.b;
            }
        }
        return NONE;
    }

    // ---- owed once

    int most(int what) {
        if (what < 0 || what > 1) return OUTSIDE;
        if (turns.size() > 8) return NOT;
        int set = mostFrom(0);
        return what == 0 ? Integer.bitCount(set) : set;
    }

    int worth(int t) {
        if (t < 0 || t >= turns.size()) return UNKNOWN;
        if (turns.size() > 8) return NOT;
        return Integer.bitCount(mostFrom(0)) - Integer.bitCount(mostFrom(1 << t));
    }

    private int mostFrom(int used) {
        Set<Integer> done = new TreeSet<>();
        oneMore(used, 0, done);
        int best = 0;
        for (int set : done) if (Integer.bitCount(set) > Integer.bitCount(best)) best = set;
        return best;
    }

    private void oneMore(int used, int ended, Set<Integer> done) {
        done.add(ended);
        for (int q = 0; q < told.size(); q++) {
            if ((ended >> q & 1) != 0) continue;
            Set<Integer> uses = new TreeSet<>();
            usesToEnd(asTold(q), used, uses);
            for (int use : uses) oneMore(use, ended | 1 << q, done);
        }
    }

    private void usesToEnd(How h, int used, Set<Integer> uses) {
        if (!bears(grudges, h.a, h.b)) {
            uses.add(used);
            return;
        }
        List<Integer> mine = mayHave(h, h.turn, used), theirs = mayHave(h, 1 - h.turn, used);
        for (int p : mine) {
            usesToEnd(handed(h, p), used | 1 << turns.indexOf(new Pair(p, h.has(h.turn))), uses);
        }
        if (mine.isEmpty() && !theirs.isEmpty()) usesToEnd(passing(h), used, uses);
    }

    // ---- the log, what was seen

    int log(int from, int to) {
        if (noPerson(from) || noPerson(to)) return UNKNOWN;
        if (log.size() == 40) return FULL;
        log.add(new Pair(from, to));
        return log.size();
    }

    int clear() {
        int had = log.size() + sights.size();
        log.clear();
        sights.clear();
        return had;
    }

    int judge(int what) {
        if (what < 0 || what > 2) return OUTSIDE;
        if (told.isEmpty()) return NOT;
        How h = asTold(0);
        int wrong = NONE;
        for (int i = 0; i < log.size(); i++) {
            How at = h;
            if (howIs(at, grudges) == 0 && mayHave(at, at.turn, -1).isEmpty()) at = passing(at);
            if (howIs(at, grudges) != 0 || log.get(i).a != at.has(at.turn)
                || !mayHave(at, at.turn, -1).contains(log.get(i).b)) {
                wrong = i;
                break;
            }
            h = handed(at, log.get(i).b);
        }
        return what == 0 ? wrong : what == 1 ? 100 * h.a + h.b : howIs(h, grudges);
    }

    int seen(int k, int p, boolean had) {
        if (noPerson(p)) return UNKNOWN;
        if (k < 0 || k > 40) return OUTSIDE;
        if (sights.size() == 20) return FULL;
        sights.add(new Sight(k, p, had));
        return sights.size();
    }

    int have(int n) {
        if (n < 0 || n > 40) return OUTSIDE;
        if (told.isEmpty()) return NOT;
        Set<How> at = new HashSet<>(List.of(asTold(0)));
        for (int k = 0; k <= n; k++) {
            if (k > 0) {
                Set<How> then = new HashSet<>();
                for (How h : at) {
                    List<How> on = next(h, grudges);
                    if (on.isEmpty()) then.add(h);
                    else then.addAll(on);
                }
                at = then;
            }
            for (Sight s : sights) if (s.k == k) at.removeIf(h -> (h.a == s.p || h.b == s.p) != s.had);
        }
        int set = 0;
        for (How h : at) set |= 1 << h.a | 1 << h.b;
        return set;
    }

    // ---- draws, images

    int seed(int v) {
        if (v < 0) return OUTSIDE;
        int old = seed;
        seed = v;
        return old;
    }

    int keep(int i) {
        if (i < 0 || i > 1) return UNKNOWN;
        images[i] = new Image(new ArrayList<>(how), new ArrayList<>(passed), new ArrayList<>(grudges), law, noBack, seed);
        return 1;
    }

    int goBack(int i) {
        if (i < 0 || i > 1) return UNKNOWN;
        Image m = images[i];
        if (m == null) return NOT;
        how = new ArrayList<>(m.how);
        passed = new ArrayList<>(m.passed);
        grudges = new ArrayList<>(m.grudges);
        law = m.law;
        noBack = m.noBack;
        seed = m.seed;
        return 1;
    }

    // ---- the rules

    private boolean noPerson(int p) {
        return p < 0 || p >= steps.size();
    }

    private boolean noQuarrel(int q) {
        return q < 0 || q >= told.size();
    }

    private How asTold(int q) {
        return new How(told.get(q).a, told.get(q).b, 0, NONE, NONE);
    }

    private static boolean bears(List<Pair> grudges, int a, int b) {
        for (Pair g : grudges) if (g.isOf(a, b)) return true;
        return false;
    }

    private static int setOf(List<Integer> those) {
        int set = 0;
        for (int p : those) set |= 1 << p;
        return set;
    }

    /** Those to whom the one of a side may hand it, in rising order; used: a set of turns, or -1 if it's no matter. */
    private List<Integer> mayHave(How h, int side, int used) {
        List<Integer> those = new ArrayList<>();
        int x = h.has(side);
        for (int p = 0; p < steps.size(); p++) {
            int t = turns.indexOf(new Pair(p, x));
            if (t < 0 || (used != -1 && (used >> t & 1) != 0)) continue;
            int up = steps.get(p) - steps.get(x);
            boolean lawful = law == 0 ? up == -1 : law == 1 ? up < 0 : law == 2 || up == 1;
            if (lawful && p != h.has(1 - side) && !(noBack == 1 && p == h.from(side))) those.add(p);
        }
        return those;
    }

    private How handed(How h, int p) {
        int from = noBack == 1 ? h.has(h.turn) : NONE;
        return h.turn == 0 ? new How(p, h.b, 1, from, h.fromB) : new How(h.a, p, 0, h.fromA, from);
    }

    private static How passing(How h) {
        return new How(h.a, h.b, 1 - h.turn, h.fromA, h.fromB);
    }

    private int howIs(How h, List<Pair> grudges) {
        if (!bears(grudges, h.a, h.b)) return 1;
        return mayHave(h, 0, -1).isEmpty() && mayHave(h, 1, -1).isEmpty() ? 2 : 0;
    }

    private List<How> next(How h, List<Pair> grudges) {
        List<How> all = new ArrayList<>();
        if (howIs(h, grudges) != 0) return all;
        for (int p : mayHave(h, h.turn, -1)) all.add(handed(h, p));
        if (all.isEmpty()) all.add(passing(h));
        return all;
    }

    private Set<How> comeTo(List<How> from, List<Pair> grudges) {
        Set<How> all = new HashSet<>(from);
        Deque<How> open = new ArrayDeque<>(from);
        while (!open.isEmpty()) {
            for (How n : next(open.pop(), grudges)) if (all.add(n)) open.push(n);
        }
        return all;
    }

    private TreeSet<Integer> endsOf(Set<How> all) {
        TreeSet<Integer> ends = new TreeSet<>();
        for (How h : all) if (howIs(h, grudges) == 1) ends.add(100 * h.a + h.b);
        return ends;
    }

    /** Round k finds what is ended in k at the most; peace 2: nobody wants peace. */
    private int needed(How start, int peace, List<Pair> grudges) {
        Map<How, List<How>> on = new HashMap<>();
        for (How h : comeTo(List.of(start), grudges)) on.put(h, next(h, grudges));
        Map<How, Integer> needs = new HashMap<>();
        for (How h : on.keySet()) if (howIs(h, grudges) == 1) needs.put(h, 0);
        for (int k = 1; !needs.containsKey(start); k++) {
            List<How> more = new ArrayList<>();
            for (How h : on.keySet()) {
                if (needs.containsKey(h) || on.get(h).isEmpty()) continue;
                boolean any = on.get(h).stream().anyMatch(needs::containsKey);
                boolean every = on.get(h).stream().allMatch(needs::containsKey);
                if (h.turn == peace ? any : every) more.add(h);
            }
            if (more.isEmpty()) return NONE;
            for (How h : more) needs.put(h, k);
        }
        return needs.get(start);
    }
}
