/** Promises 16 to 22: what can come of a quarrel. */
public final class ComesTest {
    private static final int NONE = -1, UNKNOWN = -1001, OUTSIDE = -1002, NOT = -1003;

    public static void main(String[] args) {
        refusals();
        ring();
        forcedByOneSide();
        sureForBoth();
        endedAtOnce();
        sidesOfEnds();
        twoNewOnes();
        newOnesInOrder();
        oneIsFewerThanTwo();
        theFirstOfTwoPairs();
        laidAside();
        grudgesOfOthersStay();
        personZero();
        choicesOfSideOne();
        likeOnesTheLeast();
        twelveGrudges();
        endAskedFirst();
        roundsAreNotSure();
        lawsAndTownsChange();
        fortyTurns();
        Check.close();
    }

    private static void due(String call, long got, long want) {
        Check.due(call, got, want);
    }

    private static void comes(DeputyQuarrels x, int... want) {
        for (int i = 0; i < 5; i++) due("comes(0, " + i + ")", x.comes(0, i), want[i]);
    }

    private static void ends(DeputyQuarrels x, int... want) {
        for (int i = 0; i < want.length; i++) due("end(0, " + i + ")", x.end(0, i), want[i]);
        due("end behind the last", x.end(0, want.length), NONE);
        due("end(0, -1)", x.end(0, -1), NONE);
        due("end(0, MIN)", x.end(0, Integer.MIN_VALUE), NONE);
        due("end(0, MAX)", x.end(0, Integer.MAX_VALUE), NONE);
    }

    private static void sides(DeputyQuarrels x, int forces0, int forces1, int best0, int best1, int sure) {
        due("forces(0, 0)", x.forces(0, 0), forces0);
        due("forces(0, 1)", x.forces(0, 1), forces1);
        due("best(0, 0)", x.best(0, 0), best0);
        due("best(0, 1)", x.best(0, 1), best1);
        due("sure(0)", x.sure(0), sure);
    }

    private static void fresh(DeputyQuarrels x, int side, int... want) {
        for (int i = 0; i < 3; i++) due("fresh(0, " + side + ", " + i + ")", x.fresh(0, side, i), want[i]);
    }

    private static void refusals() {
        DeputyQuarrels x = Check.town("person1;person1;grudge0 1;quarrel0 1;");
        due("comes", x.comes(1, 5), UNKNOWN);
        due("comes", x.comes(-1, 0), UNKNOWN);
        due("comes", x.comes(0, 5), OUTSIDE);
        due("comes", x.comes(0, -1), OUTSIDE);
        due("end", x.end(1, 0), UNKNOWN);
        due("forces", x.forces(1, 2), UNKNOWN);
        due("forces", x.forces(0, 2), OUTSIDE);
        due("forces", x.forces(0, -1), OUTSIDE);
        due("best", x.best(1, 2), UNKNOWN);
        due("best", x.best(0, 2), OUTSIDE);
        due("best", x.best(0, -1), OUTSIDE);
        due("sure", x.sure(1), UNKNOWN);
        due("aside", x.aside(1, 2), UNKNOWN);
        due("aside", x.aside(0, 2), OUTSIDE);
        due("aside", x.aside(0, -1), OUTSIDE);
        due("fresh", x.fresh(1, 2, 3), UNKNOWN);
        due("fresh", x.fresh(0, 2, 0), OUTSIDE);
        due("fresh", x.fresh(0, -1, 0), OUTSIDE);
        due("fresh", x.fresh(0, 0, 3), OUTSIDE);
        due("fresh", x.fresh(0, 0, -1), OUTSIDE);
        comes(x, 1, 0, 1, 0, 3);
        ends(x);
        sides(x, NONE, NONE, NONE, NONE, NONE);
        fresh(x, 0, 0, NONE, NONE);
    }

    /** 0 and 2 hand it to and fro, 1 has nobody. */
    private static void ring() {
        DeputyQuarrels x = Check.town("person1;person1;person1;owes0 2;owes2 0;grudge0 1;grudge2 1;quarrel0 1;");
        comes(x, 1, 0, 1, 0, 3);
        x.law(0, 2);
        comes(x, 4, 0, 0, 1, 7);
        ends(x);
        sides(x, NONE, NONE, 2, 2, NONE);
        due("aside", x.aside(0, 0), 1);
        x.hand(0, 2);
        comes(x, 4, 0, 0, 1, 7);
        sides(x, NONE, NONE, NONE, NONE, NONE);
        x.begin(0);
        x.law(1, 1);
        comes(x, 2, 0, 1, 0, 7);
        x.law(1, 0);
        x.bear(2, 1, false);
        comes(x, 2, 1, 0, 0, 7);
        ends(x, 201);
        sides(x, 1, 1, 2, 2, 1);
    }

    /** Side 0 may go wrong by 2, and comes by 3 and 4 to an end. */
    private static void forcedByOneSide() {
        DeputyQuarrels x = Check.town("person2;person2;person1;person1;person0;"
            + "owes2 0;owes3 0;owes4 3;grudge0 1;grudge2 1;grudge3 1;quarrel0 1;");
        comes(x, 5, 1, 1, 0, 31);
        ends(x, 401);
        sides(x, 3, NONE, 3, 2, NONE);
        due("aside", x.aside(0, 0), 0);
        due("aside", x.aside(0, 1), 1);
        fresh(x, 0, 1, 104, NONE);
        fresh(x, 1, 0, NONE, NONE);
        x.bear(1, 4, true);
        sides(x, NONE, NONE, 2, 2, NONE);
        x.bear(1, 4, false);
        x.hand(0, 3);
        comes(x, 3, 1, 0, 0, 26);
        sides(x, 2, 2, NONE, NONE, 2);
        x.hand(0, NONE);
        sides(x, 1, 1, 4, 4, 1);
        x.hand(0, 4);
        sides(x, 0, 0, NONE, NONE, 0);
        comes(x, 1, 1, 0, 0, 18);
    }

    private static void sureForBoth() {
        DeputyQuarrels x = Check.town("person3;person3;person2;person2;person1;person2;person2;"
            + "owes2 0;owes3 0;owes4 3;owes5 0;owes6 0;grudge0 1;grudge3 1;grudge1 6;quarrel0 1;");
        x.bear(1, 6, false);
        sides(x, 1, 3, 2, 3, 3);
        comes(x, 7, 4, 0, 0, 127);
        ends(x, 201, 401, 501, 601);
    }

    private static void endedAtOnce() {
        DeputyQuarrels x = Check.town("person2;person2;person1;owes2 0;quarrel1 0;");
        comes(x, 1, 1, 0, 0, 3);
        ends(x, 100);
        sides(x, 0, 0, NONE, NONE, 0);
        due("aside", x.aside(0, 0), 0);
        fresh(x, 0, 2, 1, 102);
        x.bear(0, 1, true);
        sides(x, 2, 2, NONE, NONE, 2);
        x.bear(0, 2, true);
        fresh(x, 1, 1, 102, NONE);
    }

    /** An end is told by sides: 100 times the one of side 0. */
    private static void sidesOfEnds() {
        DeputyQuarrels x = Check.town("person2;person2;person1;person1;person1;person1;"
            + "owes2 0;owes3 0;owes4 1;owes5 1;grudge0 1;grudge1 2;grudge1 3;quarrel1 0;");
        comes(x, 3, 2, 0, 0, 51);
        ends(x, 400, 500);
        Check.tell(x, "person2;person2;person1;person1;person1;person1;"
            + "owes2 0;owes3 0;owes4 1;owes5 1;grudge0 1;grudge1 2;grudge1 3;quarrel0 1;");
        x.town();
        comes(x, 7, 4, 0, 0, 63);
        ends(x, 204, 205, 304, 305);
        sides(x, 2, 2, 2, 2, 2);
    }

    private static void twoNewOnes() {
        String three = "person2;person2;person1;person1;person1;owes2 0;owes3 0;owes4 0;grudge0 1;";
        DeputyQuarrels x = Check.town(three + "quarrel0 1;");
        sides(x, 1, 1, 2, 2, 1);
        fresh(x, 0, NONE, NONE, NONE);
        fresh(x, 1, 1, 102, NONE);
        x.bear(1, 3, true);
        fresh(x, 0, 2, 102, 104);
        fresh(x, 1, 0, NONE, NONE);
        x.bear(2, 1, true);
        fresh(x, 0, 1, 104, NONE);
        x.bear(1, 4, true);
        fresh(x, 0, 0, NONE, NONE);
        due("grudges stay as they were", x.count(2), 4);
    }

    /** A chain 0, 2, 3, 4: the first pair is found though a later one ends it as well. */
    private static void newOnesInOrder() {
        DeputyQuarrels x = Check.town("person3;person3;person2;person1;person2;person1;"
            + "owes2 0;owes3 2;owes4 1;owes5 4;grudge0 1;grudge1 2;grudge2 4;grudge4 3;grudge1 3;quarrel0 1;");
        comes(x, 5, 1, 0, 0, 63);
        ends(x, 305);
        sides(x, 4, 4, 2, 2, 4);
        fresh(x, 0, 1, 305, NONE);
        x.bear(2, 4, false);
        comes(x, 3, 1, 0, 0, 23);
        fresh(x, 0, 2, 204, 305);
        fresh(x, 1, 2, 204, 305);
    }

    private static void laidAside() {
        String town = "person2;person2;person1;person1;person1;person1;person1;owes2 0;"
            + "grudge2 3;grudge2 1;grudge0 1;grudge2 4;grudge2 5;grudge2 6;grudge3 4;grudge3 5;grudge3 6;"
            + "grudge4 5;grudge4 6;grudge5 6;quarrel0 1;";
        DeputyQuarrels x = Check.town(town);
        due("grudges", x.count(2), 12);
        due("aside: 2 1 is told ahead of 0 1", x.aside(0, 0), 2);
        x.bear(2, 3, false);
        due("aside: numbers as they are now", x.aside(0, 0), 2);
        x.bear(2, 1, false);
        due("aside: none is needed", x.aside(0, 1), 0);
        x.bear(1, 2, true);
        due("aside: the one told last", x.aside(0, 1), 4);
        x.bear(3, 2, true);
        due("aside: 12", x.aside(0, 1), 4);
        x.bear(0, 3, true);
        due("aside: 13", x.aside(0, 0), NOT);
        due("aside: 13, OUTSIDE", x.aside(0, 2), OUTSIDE);
        x.bear(1, 2, false);
        x.bear(0, 2, true);
        due("aside: 13, none needed", x.aside(0, 0), NOT);
        due("forces all the same", x.forces(0, 0), 1);
    }

    private static void grudgesOfOthersStay() {
        DeputyQuarrels x = Check.town("person2;person2;person1;owes2 0;grudge0 1;grudge1 2;quarrel0 1;");
        due("aside", x.aside(0, 0), 1);
        due("grudges", x.count(2), 2);
        due("still so", x.forces(0, 0), NONE);
        x.bear(1, 2, false);
        fresh(x, 0, 1, 102, NONE);
        due("still so", x.forces(0, 0), 1);
        due("grudges", x.person(1, 3), 1);
    }

    private static void personZero() {
        DeputyQuarrels x = Check.town("person1;person1;quarrel0 1;");
        comes(x, 1, 1, 0, 0, 3);
        ends(x, 1);
        Check.tell(x, "person1;person1;person0;person0;owes2 1;owes3 1;grudge0 1;quarrel0 1;");
        due("town", x.town(), 4);
        comes(x, 4, 2, 0, 0, 15);
        ends(x, 2, 3);
        sides(x, 2, 2, NONE, NONE, 2);
        fresh(x, 0, 1, 2, NONE);
        fresh(x, 1, 2, 2, 3);
        Check.tell(x, "person1;person1;person2;person2;owes0 2;owes1 2;grudge2 3;grudge0 3;grudge1 3;quarrel2 3;");
        due("town", x.town(), 4);
        due("best is 0", x.best(0, 0), 0);
        due("best is 0", x.best(0, 1), 0);
        x.bear(0, 3, false);
        sides(x, 1, NONE, 0, 1, NONE);
    }

    /** Side 0 has nobody; 1 may go wrong by 2, and comes by 3 and 4 to an end. */
    private static void choicesOfSideOne() {
        DeputyQuarrels x = Check.town("person2;person2;person1;person1;person0;"
            + "owes2 1;owes3 1;owes4 3;grudge0 1;grudge2 0;grudge3 0;quarrel0 1;");
        comes(x, 6, 1, 1, 0, 31);
        ends(x, 4);
        sides(x, NONE, 4, NONE, NONE, NONE);
        due("aside", x.aside(0, 0), 1);
        due("aside", x.aside(0, 1), 0);
        fresh(x, 0, 0, NONE, NONE);
        fresh(x, 1, 1, 4, NONE);
        x.hand(0, NONE);
        sides(x, NONE, 3, 2, 3, NONE);
        x.hand(0, 3);
        sides(x, 2, 2, NONE, NONE, 2);
        x.hand(0, NONE);
        sides(x, 1, 1, 4, 4, 1);
        x.hand(0, NONE);
        sides(x, 0, 0, NONE, NONE, 0);
    }

    /** By 2 it cannot be ENDED, 3 and 4 need two more, 5 and 6 end it. */
    private static void likeOnesTheLeast() {
        String two = "person2;person2;person1;person1;person1;person1;person1;person0;person0;"
            + "owes6 0;owes5 0;owes4 0;owes3 0;owes8 4;owes7 3;";
        String grudges = "grudge0 1;grudge1 2;grudge1 3;grudge1 4;";
        DeputyQuarrels x = Check.town(two + "owes2 0;" + grudges + "quarrel0 1;");
        sides(x, 1, NONE, 5, 2, NONE);
        comes(x, 10, 4, 1, 0, 511);
        ends(x, 501, 601, 701, 801);
        x = Check.town(two + grudges + "quarrel0 1;");
        sides(x, 1, 3, 5, 3, 3);
        x.bear(5, 1, true);
        sides(x, 1, NONE, 6, 5, NONE);
        x.bear(6, 1, true);
        sides(x, 3, NONE, 3, 5, NONE);
        x.bear(7, 1, true);
        sides(x, 3, NONE, 4, 3, NONE);
        x.bear(8, 1, true);
        sides(x, NONE, NONE, 3, 3, NONE);
    }

    /** The twelfth grudge alone is laid aside; with a thirteenth, none may be. */
    private static void twelveGrudges() {
        DeputyQuarrels x = Check.town("person1;person1;person1;person1;person1;person1;"
            + "grudge2 3;grudge2 4;grudge2 5;grudge3 4;grudge3 5;grudge4 5;grudge0 2;grudge0 3;grudge0 4;grudge1 2;"
            + "grudge1 3;grudge1 0;quarrel0 1;quarrel0 5;quarrel1 5;quarrel2 5;");
        due("grudges", x.count(2), 12);
        for (int side = 0; side < 2; side++) {
            due("aside, the twelfth", x.aside(0, side), 2048);
            due("aside, ENDED", x.aside(1, side), 0);
            due("aside, the third", x.aside(3, side), 4);
        }
        due("bear", x.bear(5, 1, true), 13);
        for (int q = 0; q < 4; q++) due("aside of 13", x.aside(q, q & 1), NOT);
        due("aside of 13, OUTSIDE", x.aside(0, 2), OUTSIDE);
        due("aside of 13, UNKNOWN", x.aside(4, 2), UNKNOWN);
        due("bear", x.bear(2, 3, false), 12);
        due("aside, the twelfth", x.aside(0, 0), 2048);
        due("aside, the first", x.aside(2, 1), 1);
        due("bear", x.bear(0, 1, false), 11);
        due("aside, ENDED", x.aside(0, 0), 0);
        DeputyQuarrels y = Check.town("person1;person1;quarrel0 1;");
        due("aside of no grudge", y.aside(0, 0), 0);
        due("aside of no grudge", y.aside(0, 1), 0);
    }

    private static void endAskedFirst() {
        String town = "person1;person1;person0;person0;owes2 0;owes3 0;grudge0 1;quarrel0 1;quarrel2 3;";
        DeputyQuarrels x = Check.town(town);
        due("end(0, 1)", x.end(0, 1), 301);
        due("end(1, 0)", x.end(1, 0), 203);
        due("end(1, 1)", x.end(1, 1), NONE);
        due("end(0, 0)", x.end(0, 0), 201);
        due("end(0, 2)", x.end(0, 2), NONE);
        x.bear(2, 1, true);
        due("end(0, 0)", x.end(0, 0), 301);
        due("end(0, 1)", x.end(0, 1), NONE);
        due("end(2, 0)", x.end(2, 0), UNKNOWN);
        due("have", x.have(3), 14);
        due("end(0, 0)", x.end(0, 0), 301);
        x.hand(0, 2);
        due("end(0, 0)", x.end(0, 0), NONE);
    }

    /** It may be ENDED, but may go round as well. */
    private static void roundsAreNotSure() {
        DeputyQuarrels x = Check.town("person1;person1;person1;person1;owes0 2;owes2 0;owes3 2;"
            + "grudge0 1;grudge1 2;quarrel0 1;");
        x.law(0, 2);
        comes(x, 5, 1, 0, 1, 15);
        ends(x, 301);
        sides(x, 3, NONE, 2, 2, NONE);
        x.hand(0, 2);
        x.hand(0, NONE);
        sides(x, 1, NONE, 3, 0, NONE);
        x.law(1, 1);
        sides(x, 1, NONE, 3, 0, NONE);
        x.begin(0);
        comes(x, 4, 1, 0, 0, 15);
        sides(x, 3, 3, 2, 2, 3);
    }

    /**
     * Five of each side who all owe one another, 40 TURNS, and all grudges: with NO BACK a side has it in one of 20
     * ways from a giver, behind one HANDING in 4, as told in one; so it is in one way and 4 and 400 and 400.
     */
    private static void fortyTurns() {
        StringBuilder s = new StringBuilder("person1;".repeat(16));
        for (int five = 0; five < 10; five += 5) {
            for (int a = five; a < five + 5; a++) {
                for (int b = five; b < five + 5; b++) if (a != b) s.append("owes").append(a).append(' ').append(b).append(';');
            }
        }
        DeputyQuarrels x = Check.town(s + "quarrel0 5;quarrel5 0;");
        due("TURNS", x.count(1), 40);
        for (int a = 0; a < 5; a++) for (int b = 5; b < 10; b++) x.bear(a, b, true);
        x.law(0, 2);
        comes(x, 50, 0, 0, 1, 1023);
        x.law(1, 1);
        comes(x, 805, 0, 0, 1, 1023);
        due("comes, sides the other way", x.comes(1, 0), 805);
        sides(x, NONE, NONE, 1, 1, NONE);
        due("have", x.have(40), 1023);
        due("have", x.have(1), 0x3e);
        x.bear(4, 9, false);
        due("comes", x.comes(0, 1), 1);
        ends(x, 409);
        due("end, sides the other way", x.end(1, 0), 904);
        due("forces", x.forces(0, 0), NONE);
        due("sure", x.sure(0), NONE);
    }

    /** What could be by former LAWS, or in a former town, counts no more. */
    private static void lawsAndTownsChange() {
        DeputyQuarrels x = Check.town("person3;person3;person2;person1;owes2 0;owes3 2;owes3 0;"
            + "grudge0 1;grudge1 2;quarrel0 1;");
        sides(x, 3, 3, 2, 2, 3);
        x.law(0, 1);
        sides(x, 1, 3, 3, 2, 3);
        x.law(0, 0);
        sides(x, 3, 3, 2, 2, 3);
        x.law(1, 1);
        sides(x, 3, 3, 2, 2, 3);
        Check.tell(x, "person3;person3;person2;person2;owes3 1;owes2 0;grudge0 1;quarrel0 1;");
        due("town", x.town(), 4);
        sides(x, 1, 1, 2, 2, 1);
        Check.tell(x, "person3;person3;person2;person2;owes2 0;owes3 1;grudge0 1;quarrel0 1;");
        due("town", x.town(), 4);
        sides(x, 1, 1, 2, 2, 1);
        Check.tell(x, "person3;person3;person2;person2;owes1 0;owes2 0;grudge0 1;quarrel0 3;quarrel0 2;quarrel0 1;");
        due("town", x.town(), 4);
        due("may", x.may(2), 4);
        Check.tell(x, "person3;person3;person2;person2;owes2 0;grudge0 1;quarrel0 1;");
        due("town", x.town(), 4);
        due("may", x.may(0), 4);
    }

    /** Behind 3 side 1 has one way, behind 2 two ways: two new ones there would be told first, but are more. */
    private static void oneIsFewerThanTwo() {
        DeputyQuarrels x = Check.town("person2;person2;person1;person1;person1;person1;owes2 0;owes3 0;owes4 1;owes5 1;"
            + "grudge0 1;grudge2 1;grudge3 1;grudge3 4;quarrel0 1;");
        sides(x, 2, 2, 2, 2, NONE);
        fresh(x, 1, 1, 305, NONE);
        x.bear(3, 4, false);
        sides(x, 2, 2, 2, 2, 2);
        fresh(x, 1, 2, 204, 205);
        fresh(x, 0, 2, 204, 304);
    }

    /** Behind 6 side 1 ends it by 4 or 5; behind 7 by 5 or, by 2, in two more by 3. */
    private static void theFirstOfTwoPairs() {
        DeputyQuarrels x = Check.town("person1;".repeat(8) + "owes6 0;owes7 0;owes2 1;owes4 1;owes5 1;owes3 2;"
            + "grudge0 1;grudge1 6;grudge1 7;grudge2 6;grudge2 7;grudge3 6;grudge4 7;quarrel0 1;");
        x.law(0, 2);
        sides(x, NONE, 2, 6, 6, NONE);
        fresh(x, 1, 2, 307, 507);
        x.bear(7, 3, true);
        fresh(x, 1, 1, 507, NONE);
        x.bear(7, 4, false);
        fresh(x, 1, 2, 406, 506);
    }
}
