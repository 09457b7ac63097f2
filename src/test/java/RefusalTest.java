import java.util.ArrayList;
import java.util.List;

/**
 * "What is refused changes nothing": each refused call is made on an object with a story of its own, and all that
 * the object answers from then on is compared with an object of the same story that was not asked.
 */
public final class RefusalTest {
    private static final int NONE = -1, UNKNOWN = -1001, OUTSIDE = -1002, NOT = -1003, FULL = -1004;
    private static final int NEW = 0, FED = 1, FAULTY = 2, RICH = 3, FILLED = 4, EMPTY = 5, STORIES = 6;
    private static final int MIN = Integer.MIN_VALUE, MAX = Integer.MAX_VALUE;
    private static final int FEED = 0, COUNT = 1, PERSON = 2, TURN = 3, GRUDGE = 4, LAW = 5, BEAR = 6, NO_MORE = 7,
        QUARREL = 8, MAY = 9, HAND = 10, BEGIN = 11, DRIFT = 12, COMES = 13, END = 14, FORCES = 15, BEST = 16, SURE = 17,
        ASIDE = 18, FRESH = 19, MOST = 20, WORTH = 21, LOG = 22, JUDGE = 23, SEEN = 24, HAVE = 25, SEED = 26, KEEP = 27,
        GO_BACK = 28;
    private static final String[] NAMES = {"feed", "count", "person", "turn", "grudge", "law", "bear", "bear no more",
        "quarrel", "may", "hand", "begin", "drift", "comes", "end", "forces", "best", "sure", "aside", "fresh", "most",
        "worth", "log", "judge", "seen", "have", "seed", "keep", "goBack"};
    /** 0, 1 on step 2; 2, 3 owe 0, 4 owes 2 and 3; 5 owes 1: 8 turns, 12 grudges, four quarrels. */
    private static final String TOWN = "person2;person2;person1;person1;person0;person1;"
        + "owes2 0;owes3 0;owes4 2;owes4 3;owes5 1;owes0 2;owes0 4;owes1 5;"
        + "grudge0 1;grudge2 1;grudge3 1;grudge2 5;grudge3 5;grudge0 5;grudge0 2;grudge0 3;grudge2 3;grudge1 5;"
        + "grudge4 2;grudge4 3;quarrel0 1;quarrel4 1;quarrel1 0;quarrel3 2;";
    private static final String ONE_MORE_TURN = "owes3 1;", ONE_MORE_GRUDGE = "grudge4 1;";

    private static int story;

    public static void main(String[] args) {
        for (story = 0; story < STORIES; story++) refusedAlways();
        for (int s : new int[] {NEW, FED, FAULTY, EMPTY}) nobodyIsTold(s);
        story = RICH;
        refusedByTown(6, 8, 12, 4);
        refusedNow();
        story = FILLED;
        refusedByTown(6, 9, 13, 4);
        refusedWhenFull();
        story = EMPTY;
        refused(GO_BACK, 0, 0, 0, NOT);
        faultsChangeNothing();
        Check.close();
    }

    private static int call(DeputyQuarrels x, int which, int a, int b, int c) {
        switch (which) {
            case FEED: return x.feed(a, b);
            case COUNT: return x.count(a);
            case PERSON: return x.person(a, b);
            case TURN: return x.turn(a, b);
            case GRUDGE: return x.grudge(a);
            case LAW: return x.law(a, b);
            case BEAR: return x.bear(a, b, true);
            case NO_MORE: return x.bear(a, b, false);
            case QUARREL: return x.quarrel(a, b);
            case MAY: return x.may(a);
            case HAND: return x.hand(a, b);
            case BEGIN: return x.begin(a);
            case DRIFT: return x.drift(a, b);
            case COMES: return x.comes(a, b);
            case END: return x.end(a, b);
            case FORCES: return x.forces(a, b);
            case BEST: return x.best(a, b);
            case SURE: return x.sure(a);
            case ASIDE: return x.aside(a, b);
            case FRESH: return x.fresh(a, b, c);
            case MOST: return x.most(a);
            case WORTH: return x.worth(a);
            case LOG: return x.log(a, b);
            case JUDGE: return x.judge(a);
            case SEEN: return x.seen(a, b, c != 0);
            case HAVE: return x.have(a);
            case SEED: return x.seed(a);
            case KEEP: return x.keep(a);
            default: return x.goBack(a);
        }
    }

    /** An object with the story that is on. */
    private static DeputyQuarrels told() {
        DeputyQuarrels x = new DeputyQuarrels();
        if (story == FED) Check.tell(x, TOWN);
        if (story == FAULTY) {
            Check.tell(x, TOWN + "owes2 0;");
            x.town();
        }
        if (story == EMPTY) {
            Check.tell(x, TOWN);
            x.town();
            live(x);
            Check.tell(x, "   ");
            x.town();
        }
        if (story != RICH && story != FILLED) return x;
        Check.tell(x, story == RICH ? TOWN : TOWN + ONE_MORE_TURN + ONE_MORE_GRUDGE);
        x.town();
        live(x);
        if (story == FILLED) fill(x);
        return x;
    }

    private static void live(DeputyQuarrels x) {
        x.law(0, 1);
        x.keep(0);
        x.law(1, 1);
        x.seed(77);
        x.hand(0, 3);
        x.hand(2, 5);
        x.hand(2, 2);
        x.log(0, 3);
        x.log(1, 4);
        x.seen(1, 3, true);
        x.seen(2, 2, false);
    }

    private static void fill(DeputyQuarrels x) {
        for (int i = 2; i < 40; i++) x.log(i % 6, (i + 1) % 6);
        for (int i = 2; i < 20; i++) x.seen(2 * i, i % 6, false);
        x.keep(1);
        x.hand(0, 5);
        Check.tell(x, "person1;".repeat(3) + "grudge0 1;quarrel0 1;" + " ".repeat(455));
    }

    private static void refused(int which, int a, int b, int c, int want) {
        DeputyQuarrels x = told();
        String name = "story " + story + ": " + NAMES[which] + "(" + a + ", " + b + ", " + c + ")";
        Check.due(name, call(x, which, a, b, c), want);
        compare(name, x, told());
    }

    private static void compare(String name, DeputyQuarrels x, DeputyQuarrels y) {
        List<Integer> got = answers(x);
        List<Integer> want = answers(y);
        Check.due(name + ": answers behind it", got.size(), want.size());
        for (int i = 0; i < got.size() && i < want.size(); i++) {
            Check.due(name + ": answer " + i + " behind it", got.get(i), want.get(i));
        }
    }

    /** All that can be asked, then what draws, images, THE TEXT and LAWS lead to. */
    private static List<Integer> answers(DeputyQuarrels x) {
        List<Integer> all = new ArrayList<>();
        for (int i = 0; i < 7; i++) all.add(x.count(i));
        for (int p = 0; p < x.count(0); p++) for (int i = 0; i < 4; i++) all.add(x.person(p, i));
        for (int t = 0; t < x.count(1); t++) all.add(x.turn(t, 0) * 100 + x.turn(t, 1));
        for (int g = 0; g < x.count(2); g++) all.add(x.grudge(g));
        for (int q = 0; q < x.count(3); q++) addQuarrel(all, x, q);
        for (int i = 0; i < 2; i++) all.add(x.most(i));
        for (int i = 0; i < 3; i++) all.add(x.judge(i));
        for (int n : new int[] {0, 1, 2, 40}) all.add(x.have(n));
        addLater(all, x);
        return all;
    }

    private static void addHow(List<Integer> all, DeputyQuarrels x, int q) {
        for (int i = 0; i < 7; i++) all.add(x.quarrel(q, i));
    }

    private static void addQuarrel(List<Integer> all, DeputyQuarrels x, int q) {
        addHow(all, x, q);
        all.add(x.may(q));
        for (int i = 0; i < 5; i++) all.add(x.comes(q, i));
        all.add(x.end(q, 0));
        all.add(x.sure(q));
        for (int side = 0; side < 2; side++) {
            all.add(x.forces(q, side));
            all.add(x.best(q, side));
            all.add(x.aside(q, side));
            all.add(x.fresh(q, side, 0));
        }
    }

    private static void addLater(List<Integer> all, DeputyQuarrels x) {
        for (int q = 0; q < x.count(3); q++) {
            all.add(x.drift(q, 2));
            addHow(all, x, q);
        }
        for (int image = 0; image < 2; image++) {
            all.add(x.goBack(image));
            all.add(x.count(2));
            for (int q = 0; q < x.count(3); q++) addHow(all, x, q);
        }
        all.add(x.seed(5));
        all.add(x.law(0, 0));
        all.add(x.law(1, 0));
        all.add(x.clear());
        all.add(x.fault());
        all.add(x.town());
        for (int i = 0; i < 7; i++) all.add(x.count(i));
        all.add(x.fault());
    }

    /** Whatever the story. */
    private static void refusedAlways() {
        for (int n : new int[] {MIN, -1, 0, 9, MAX}) refused(FEED, n, 65, 0, OUTSIDE);
        for (int v : new int[] {MIN, -1, 7, MAX}) refused(COUNT, v, 0, 0, OUTSIDE);
        for (int v : new int[] {MIN, -1, 4, MAX}) refused(LAW, 0, v, 0, OUTSIDE);
        for (int v : new int[] {MIN, -1, 2, MAX}) refused(LAW, 1, v, 0, OUTSIDE);
        for (int v : new int[] {MIN, -1, 2, MAX}) refused(LAW, v, 0, 0, OUTSIDE);
        for (int v : new int[] {MIN, -1, 2, MAX}) refused(MOST, v, 0, 0, OUTSIDE);
        for (int v : new int[] {MIN, -1, 3, MAX}) refused(JUDGE, v, 0, 0, OUTSIDE);
        for (int v : new int[] {MIN, -1, 41, MAX}) refused(HAVE, v, 0, 0, OUTSIDE);
        for (int v : new int[] {MIN, -1}) refused(SEED, v, 0, 0, OUTSIDE);
        for (int v : new int[] {MIN, -1, 2, MAX}) refused(KEEP, v, 0, 0, UNKNOWN);
        for (int v : new int[] {MIN, -1, 2, MAX}) refused(GO_BACK, v, 0, 0, UNKNOWN);
    }

    /** No PERSONS, so none of anything: UNKNOWN is ahead of all else. */
    private static void nobodyIsTold(int which) {
        story = which;
        refusedByTown(0, 0, 0, 0);
        refused(JUDGE, 0, 0, 0, NOT);
        refused(JUDGE, 2, 0, 0, NOT);
        refused(HAVE, 0, 0, 0, NOT);
        refused(HAVE, 40, 0, 0, NOT);
        refused(GO_BACK, 0, 0, 0, NOT);
        refused(GO_BACK, 1, 0, 0, NOT);
    }

    /** Numbers behind the last one and ahead of the first, with the other numbers right and out of their bounds. */
    private static void refusedByTown(int persons, int turns, int grudges, int quarrels) {
        for (int p : new int[] {MIN, -1, persons, MAX}) unknownPerson(p);
        for (int t : new int[] {MIN, -1, turns, MAX}) {
            refused(TURN, t, 0, 0, UNKNOWN);
            refused(TURN, t, 2, 0, UNKNOWN);
            refused(WORTH, t, 0, 0, UNKNOWN);
        }
        for (int g : new int[] {MIN, -1, grudges, MAX}) refused(GRUDGE, g, 0, 0, UNKNOWN);
        for (int q : new int[] {MIN, -1, quarrels, MAX}) unknownQuarrel(q);
        if (persons == 0) return;
        for (int v : new int[] {MIN, -1, 4, MAX}) refused(PERSON, persons - 1, v, 0, OUTSIDE);
        for (int v : new int[] {MIN, -1, 2, MAX}) refused(TURN, turns - 1, v, 0, OUTSIDE);
        outside(0);
        outside(quarrels - 1);
    }

    private static void unknownPerson(int p) {
        refused(PERSON, p, 0, 0, UNKNOWN);
        refused(PERSON, p, 4, 0, UNKNOWN);
        for (int bear : new int[] {BEAR, NO_MORE}) {
            refused(bear, p, 0, 0, UNKNOWN);
            refused(bear, 0, p, 0, UNKNOWN);
            refused(bear, p, p, 0, UNKNOWN);
        }
        if (p != NONE) refused(HAND, 0, p, 0, UNKNOWN);
        refused(LOG, p, 0, 0, UNKNOWN);
        refused(LOG, 0, p, 0, UNKNOWN);
        refused(SEEN, 0, p, 0, UNKNOWN);
        refused(SEEN, 41, p, 1, UNKNOWN);
    }

    private static void unknownQuarrel(int q) {
        for (int which : new int[] {MAY, BEGIN, SURE}) refused(which, q, 0, 0, UNKNOWN);
        for (int which : new int[] {QUARREL, DRIFT, COMES, END, FORCES, BEST, ASIDE}) {
            refused(which, q, 1, 0, UNKNOWN);
            refused(which, q, 100, 0, UNKNOWN);
        }
        refused(HAND, q, 0, 0, UNKNOWN);
        refused(HAND, q, NONE, 0, UNKNOWN);
        refused(FRESH, q, 0, 0, UNKNOWN);
        refused(FRESH, q, 2, 3, UNKNOWN);
    }

    private static void outside(int q) {
        for (int v : new int[] {MIN, -1, 7, MAX}) refused(QUARREL, q, v, 0, OUTSIDE);
        for (int v : new int[] {MIN, -1, 0, 100, MAX}) refused(DRIFT, q, v, 0, OUTSIDE);
        for (int v : new int[] {MIN, -1, 5, MAX}) refused(COMES, q, v, 0, OUTSIDE);
        for (int v : new int[] {MIN, -1, 2, MAX}) {
            for (int which : new int[] {FORCES, BEST, ASIDE, FRESH}) refused(which, q, v, 0, OUTSIDE);
        }
        for (int v : new int[] {MIN, -1, 3, MAX}) refused(FRESH, q, 1, v, OUTSIDE);
        for (int k : new int[] {MIN, -1, 41, MAX}) refused(SEEN, k, 5, 1, OUTSIDE);
    }

    private static void refusedNow() {
        refused(BEAR, 0, 1, 0, NOT);
        refused(BEAR, 1, 0, 0, NOT);
        refused(NO_MORE, 4, 1, 0, NOT);
        refused(NO_MORE, 1, 4, 0, NOT);
        refused(BEAR, 3, 3, 0, UNKNOWN);
        refused(NO_MORE, 3, 3, 0, UNKNOWN);
        refused(HAND, 0, 2, 0, NOT);
        refused(HAND, 0, 3, 0, NOT);
        refused(HAND, 1, NONE, 0, NOT);
        refused(HAND, 1, 0, 0, NOT);
        refused(GO_BACK, 1, 0, 0, NOT);
    }

    private static void refusedWhenFull() {
        refused(FEED, 1, ' ', 0, FULL);
        refused(FEED, 8, ' ', 0, FULL);
        refused(LOG, 0, 3, 0, FULL);
        refused(LOG, 5, 5, 0, FULL);
        refused(SEEN, 0, 1, 0, FULL);
        refused(SEEN, 40, 1, 1, FULL);
        for (int i = 0; i < 2; i++) refused(MOST, i, 0, 0, NOT);
        refused(WORTH, 0, 0, 0, NOT);
        refused(WORTH, 8, 0, 0, NOT);
        for (int q = 0; q < 4; q++) for (int side = 0; side < 2; side++) refused(ASIDE, q, side, 0, NOT);
    }

    /** With a FAULT all is as it was but THE TEXT, which is empty, and the place. */
    private static void faultsChangeNothing() {
        story = RICH;
        String[] texts = {"person", "person1;person10;", TOWN + "quarrel0 1;", TOWN + "owes2 0;", "person1;grudge0 0;", ";"};
        int[] due = {-11, -12, -13, -14, -14, -11};
        int[] place = {6, 14, TOWN.length(), TOWN.length() + 6, 16, 0};
        for (int i = 0; i < texts.length; i++) {
            DeputyQuarrels x = told();
            Check.tell(x, texts[i]);
            Check.due("town() of '" + texts[i] + "'", x.town(), due[i]);
            Check.due("fault() of '" + texts[i] + "'", x.fault(), place[i]);
            DeputyQuarrels y = told();
            List<Integer> got = answers(x), want = answers(y);
            int places = 0;
            for (int k = 0; k < want.size(); k++) if (!got.get(k).equals(want.get(k))) places++;
            Check.due("behind a FAULT only its place is another", places, 1);
            Check.due("and answers are as many", got.size(), want.size());
        }
    }
}
