import java.util.Random;

/** The class against Plain in towns nearly as full as a text can tell: up to 16 persons, 40 turns, 120 grudges. */
public final class FullTownTest {
    private static final int RUNS = Integer.getInteger("runs", 24), FROM = Integer.getInteger("from", 0);

    private final Random chance;
    private final DeputyQuarrels x = new DeputyQuarrels();
    private final Plain y = new Plain();
    private final int run;
    private final int persons;

    private FullTownTest(int run) {
        this.run = run;
        chance = new Random(run);
        persons = run % 3 == 0 ? 16 : 6 + chance.nextInt(11);
    }

    public static void main(String[] args) {
        for (int run = FROM; run < FROM + RUNS; run++) new FullTownTest(run).play();
        Check.close();
    }

    private void play() {
        tell(text());
        quarrel();
        for (int law = 0; law < 4; law++) {
            int noBack = chance.nextInt(2), from = chance.nextInt(persons), to = chance.nextInt(persons);
            due("law(0, " + law + ")", x.law(0, law), y.law(0, law));
            due("law(1, " + noBack + ")", x.law(1, noBack), y.law(1, noBack));
            for (int q = 0; q < 3; q++) compare(q);
            sights();
            due("bear(" + from + ", " + to + ", false)", x.bear(from, to, false), y.bear(from, to, false));
        }
    }

    private String text() {
        StringBuilder s = new StringBuilder();
        int levels = 1 + chance.nextInt(4), turns = 0;
        for (int p = 0; p < persons; p++) s.append("person").append(chance.nextInt(levels)).append(';');
        boolean[] owed = new boolean[16 * 16];
        for (int i = 0; i < 400 && turns < 40 && s.length() < 455; i++) {
            int a = chance.nextInt(persons), b = chance.nextInt(persons);
            if (a == b || owed[16 * a + b]) continue;
            owed[16 * a + b] = true;
            s.append("owes").append(a).append(' ').append(b).append(';');
            turns++;
        }
        return s + "quarrel0 1;quarrel1 0;quarrel2 3;";
    }

    private void tell(String text) {
        for (int i = 0; i < text.length(); i++) {
            x.feed(1, text.charAt(i));
            y.feed(1, text.charAt(i));
        }
        due("town()", x.town(), y.town());
    }

    /** Grudges of nearly all, or of some: so that quarrels go on for long. */
    private void quarrel() {
        int many = 2 + chance.nextInt(8);
        for (int a = 0; a < persons; a++) {
            for (int b = 0; b < a; b++) {
                if (chance.nextInt(many) == 0) continue;
                due("bear(" + a + ", " + b + ", true)", x.bear(a, b, true), y.bear(a, b, true));
            }
        }
    }

    /** Rings and new grudges take Plain too long where there are many persons. */
    private void compare(int q) {
        for (int i = 0; i < 5; i++) {
            if (i != 3 || persons <= 10) due("comes(" + q + ", " + i + ")", x.comes(q, i), y.comes(q, i));
        }
        for (int i = 0; i < 5; i++) due("end(" + q + ", " + i + ")", x.end(q, i), y.end(q, i));
        for (int side = 0; side < 2; side++) {
            due("forces(" + q + ", " + side + ")", x.forces(q, side), y.forces(q, side));
            due("best(" + q + ", " + side + ")", x.best(q, side), y.best(q, side));
            if (persons > 8) continue;
            for (int i = 0; i < 3; i++) {
                due("fresh(" + q + ", " + side + ", " + i + ")", x.fresh(q, side, i), y.fresh(q, side, i));
            }
        }
        due("sure(" + q + ")", x.sure(q), y.sure(q));
        due("may(" + q + ")", x.may(q), y.may(q));
        due("hand(" + q + ", NONE)", x.hand(q, -1), y.hand(q, -1));
        for (int i = 0; i < 7; i++) due("quarrel(" + q + ", " + i + ")", x.quarrel(q, i), y.quarrel(q, i));
    }

    private void sights() {
        for (int i = 0; i < 4; i++) {
            int k = chance.nextInt(9), p = chance.nextInt(persons);
            boolean had = chance.nextInt(4) == 0;
            due("seen(" + k + ", " + p + ", " + had + ")", x.seen(k, p, had), y.seen(k, p, had));
            due("have(" + (k + i) + ")", x.have(k + i), y.have(k + i));
        }
        due("have(40)", x.have(40), y.have(40));
        due("clear()", x.clear(), y.clear());
    }

    private void due(String call, int got, int want) {
        Check.due("run " + run + ": " + call, got, want);
    }
}
