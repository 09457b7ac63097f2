/** Promises 23 and 24: turns that are owed but once. */
public final class OnceTest {
    private static final int UNKNOWN = -1001, OUTSIDE = -1002, NOT = -1003;

    public static void main(String[] args) {
        oneTurnForTwo();
        orderMatters();
        aTurnTooMany();
        endedAndStanding();
        lawsHold();
        eightAtMost();
        owedToAnother();
        endedOnlyOnce();
        oneAheadOfAnother();
        likeSetsTheLeast();
        eightInAChain();
        twoTurnsForEach();
        nineTurns();
        sameTurnsUsed();
        byTurns();
        notTheOtherSide();
        Check.close();
    }

    private static void due(String call, long got, long want) {
        Check.due(call, got, want);
    }

    private static void most(DeputyQuarrels x, int many, int set) {
        due("most(0)", x.most(0), many);
        due("most(1)", x.most(1), set);
    }

    private static void oneTurnForTwo() {
        DeputyQuarrels x = Check.town("person1;person1;person0;owes2 0;grudge0 1;quarrel0 1;quarrel0 1;quarrel1 0;");
        most(x, 1, 1);
        due("worth", x.worth(0), 1);
        due("worth", x.worth(1), UNKNOWN);
        due("worth", x.worth(-1), UNKNOWN);
        due("most", x.most(2), OUTSIDE);
        due("most", x.most(-1), OUTSIDE);
        x.hand(0, 2);
        most(x, 1, 1);
        due("most changes nothing", x.quarrel(0, 0), 2);
        x.bear(2, 1, true);
        most(x, 0, 0);
        due("worth", x.worth(0), 0);
        x.bear(0, 1, false);
        most(x, 3, 7);
        due("worth", x.worth(0), 0);
    }

    /** QUARREL 0 may take either turn, 1 needs the first; so the one must leave it to the other. */
    private static void orderMatters() {
        DeputyQuarrels x = Check.town("person1;person1;person0;person0;person1;owes2 0;owes3 0;"
            + "grudge0 1;grudge0 4;grudge3 4;quarrel0 1;quarrel0 4;");
        most(x, 2, 3);
        due("worth", x.worth(0), 1);
        due("worth", x.worth(1), 1);
        x.bear(2, 4, true);
        most(x, 1, 1);
        due("worth", x.worth(0), 0);
        x.bear(1, 2, true);
        x.bear(1, 3, true);
        x.bear(2, 4, false);
        most(x, 1, 2);
        due("worth: 0 must take 2 or 3 by chance", x.worth(0), 1);
        due("worth", x.worth(1), 0);
    }

    /** Side 0 must hand it to 2; had it nobody, side 1 would end it by 3. */
    private static void aTurnTooMany() {
        DeputyQuarrels x = Check.town("person1;person1;person0;person0;owes2 0;owes3 1;"
            + "grudge0 1;grudge2 1;grudge2 3;quarrel0 1;");
        most(x, 0, 0);
        due("worth", x.worth(0), -1);
        due("worth", x.worth(1), 0);
        DeputyQuarrels y = Check.town("person1;person1;person0;person0;owes2 0;owes3 1;"
            + "grudge0 1;grudge2 1;grudge2 3;quarrel0 1;quarrel0 2;");
        y.bear(0, 2, true);
        most(y, 0, 0);
        y.bear(0, 2, false);
        most(y, 1, 2);
    }

    private static void endedAndStanding() {
        DeputyQuarrels x = Check.town("person1;person1;person1;grudge0 1;quarrel0 1;quarrel0 2;quarrel0 1;quarrel1 2;");
        most(x, 2, 10);
        DeputyQuarrels y = Check.town("person1;person1;grudge0 1;");
        most(y, 0, 0);
    }

    private static void lawsHold() {
        DeputyQuarrels x = Check.town("person1;person1;person1;owes2 0;owes0 2;owes1 2;grudge0 1;grudge1 2;quarrel0 1;");
        most(x, 0, 0);
        x.law(0, 2);
        most(x, 0, 0);
        x.bear(2, 1, false);
        most(x, 1, 1);
        DeputyQuarrels y = Check.town("person1;person1;person1;person1;owes2 0;owes0 2;owes3 0;"
            + "grudge0 1;grudge1 2;quarrel0 1;");
        y.law(0, 2);
        most(y, 1, 1);
        due("worth", y.worth(2), 1);
        y.bear(0, 3, true);
        most(y, 1, 1);
        y.law(1, 1);
        most(y, 1, 1);
        Check.tell(y, "person1;person1;person1;person1;owes2 0;owes0 2;owes3 0;owes3 2;"
            + "grudge0 1;grudge1 2;grudge1 3;grudge0 3;quarrel2 1;");
        y.law(1, 0);
        y.town();
        most(y, 0, 0);
        y.bear(1, 3, false);
        most(y, 1, 1);
    }

    private static void eightAtMost() {
        String eight = "person1;person1;person1;person1;owes0 1;owes0 2;owes0 3;owes1 0;owes1 2;owes1 3;owes2 0;owes2 1;";
        DeputyQuarrels x = Check.town(eight + "quarrel0 1;");
        most(x, 1, 1);
        due("worth", x.worth(7), 0);
        DeputyQuarrels y = Check.town(eight + "owes2 3;quarrel0 1;");
        due("most", y.most(0), NOT);
        due("most", y.most(2), OUTSIDE);
        due("worth", y.worth(0), NOT);
        due("worth", y.worth(9), UNKNOWN);
    }

    /** What 2 owes 4 is not for 0 to use. */
    private static void owedToAnother() {
        DeputyQuarrels x = Check.town("person1;person1;person0;person1;person1;owes2 0;owes2 4;"
            + "grudge0 1;grudge0 3;quarrel0 1;quarrel0 3;");
        most(x, 1, 1);
        due("worth", x.worth(0), 1);
        due("worth", x.worth(1), 0);
    }

    /** QUARREL 1 can be ENDED only behind the use of TURNS 0 and 1, of which QUARREL 0 takes but one. */
    private static void endedOnlyOnce() {
        String town = "person1;person1;person0;person0;person0;person1;owes2 0;owes3 0;owes4 1;"
            + "grudge0 1;grudge2 1;grudge3 1;grudge4 2;grudge4 3;grudge0 5;quarrel0 5;quarrel0 1;";
        DeputyQuarrels x = Check.town(town);
        most(x, 1, 1);
        due("worth", x.worth(0), -1);
        due("worth", x.worth(1), -1);
        due("worth", x.worth(2), 0);
        x = Check.town(town + "quarrel0 5;");
        most(x, 3, 7);
        due("worth", x.worth(0), 1);
        due("worth", x.worth(2), 1);
    }

    /** The one goes wrong by TURN 0, by which the other is ENDED; behind that, side 0 of the one passes. */
    private static void oneAheadOfAnother() {
        String town = "person1;person1;person0;person0;person1;owes2 0;owes3 1;"
            + "grudge0 1;grudge2 1;grudge2 3;grudge0 4;";
        DeputyQuarrels x = Check.town(town + "quarrel0 1;quarrel0 4;");
        most(x, 2, 3);
        due("worth", x.worth(0), 1);
        due("worth", x.worth(1), 1);
        x = Check.town(town + "quarrel0 4;quarrel0 1;");
        most(x, 2, 3);
        x = Check.town(town + "quarrel0 1;");
        most(x, 0, 0);
    }

    /** QUARRELS 0 to 3 need TURNS 0 and 1, 0 and 2, 1 and 3, 2 and 3: so 0 with 3, or 1 with 2. */
    private static void likeSetsTheLeast() {
        DeputyQuarrels x = Check.town("person1;".repeat(8) + "owes1 0;owes2 1;owes3 1;owes4 2;"
            + "grudge5 0;grudge5 1;grudge5 3;grudge5 4;grudge6 0;grudge6 1;grudge6 2;grudge6 4;"
            + "grudge7 1;grudge7 2;grudge7 3;grudge1 2;grudge2 3;grudge1 4;grudge2 4;"
            + "quarrel0 5;quarrel0 6;quarrel1 7;quarrel1 2;");
        x.law(0, 2);
        most(x, 2, 6);
        for (int t = 0; t < 4; t++) due("worth", x.worth(t), 1);
        x.bear(6, 0, false);
        most(x, 3, 11);
        due("worth", x.worth(0), 1);
    }

    /** Eight HANDINGS of one side, with a pass between each two, and one ahead of them. */
    private static void eightInAChain() {
        String chain = "person9;person9;person8;person7;person6;person5;person4;person3;person2;person1;"
            + "owes2 0;owes3 2;owes4 3;owes5 4;owes6 5;owes7 6;owes8 7;owes9 8;"
            + "grudge0 1;grudge2 1;grudge3 1;grudge4 1;grudge5 1;grudge6 1;grudge7 1;grudge8 1;";
        DeputyQuarrels x = Check.town(chain + "quarrel0 1;quarrel1 0;");
        most(x, 1, 1);
        for (int t = 0; t < 8; t++) due("worth", x.worth(t), 1);
        x = Check.town(chain + "quarrel1 0;");
        most(x, 1, 1);
        for (int t = 0; t < 8; t++) due("worth", x.worth(t), 1);
        x.bear(9, 1, true);
        most(x, 0, 0);
        x.bear(7, 1, false);
        most(x, 1, 1);
        due("worth of the last that is needed", x.worth(5), 1);
        due("worth of one behind it", x.worth(6), 0);
    }

    private static void twoTurnsForEach() {
        String town = "person1;".repeat(12) + "owes8 0;owes8 1;owes8 2;owes8 3;owes9 4;owes9 5;owes9 6;owes9 7;"
            + "grudge0 4;grudge1 5;grudge2 6;grudge3 7;grudge8 4;grudge8 5;grudge8 6;grudge8 7;"
            + "grudge9 0;grudge9 1;grudge9 2;grudge9 3;";
        DeputyQuarrels x = Check.town(town + "quarrel0 4;quarrel1 5;quarrel2 6;quarrel3 7;");
        most(x, 0, 0);
        x.law(0, 2);
        most(x, 4, 15);
        for (int t = 0; t < 8; t++) due("worth", x.worth(t), 1);
        x.bear(8, 9, true);
        most(x, 0, 0);
    }

    /** With nine TURNS NOT, whatever they are; of a TURN that there is not, UNKNOWN. */
    private static void nineTurns() {
        String nine = "person1;person1;person1;person1;owes0 1;owes0 2;owes0 3;owes1 0;owes1 2;owes1 3;owes2 0;owes2 1;owes2 3;";
        DeputyQuarrels x = Check.town(nine);
        due("most(0)", x.most(0), NOT);
        due("most(1)", x.most(1), NOT);
        due("most(-1)", x.most(-1), OUTSIDE);
        due("worth(8)", x.worth(8), NOT);
        due("worth(9)", x.worth(9), UNKNOWN);
        due("worth(-1)", x.worth(-1), UNKNOWN);
        DeputyQuarrels y = new DeputyQuarrels();
        most(y, 0, 0);
        due("worth(0)", y.worth(0), UNKNOWN);
    }

    /** The same TURNS used may have brought it to others, at the other side's turn: each must be carried on. */
    private static void sameTurnsUsed() {
        DeputyQuarrels x = Check.town("person1;".repeat(8) + "owes4 5;owes3 1;owes2 0;owes7 6;owes0 7;owes3 7;owes1 4;"
            + "grudge0 2;grudge0 3;grudge0 4;grudge0 5;grudge0 6;grudge0 7;grudge1 2;grudge1 4;grudge1 7;grudge2 3;"
            + "grudge2 5;grudge2 6;grudge2 7;grudge3 4;grudge3 5;grudge3 6;grudge3 7;grudge4 5;grudge4 6;grudge4 7;"
            + "grudge5 6;grudge5 7;grudge6 7;quarrel4 7;quarrel5 6;");
        x.law(0, 2);
        x.law(1, 1);
        most(x, 2, 3);
        x.law(1, 0);
        most(x, 2, 3);
    }

    /** A side that hands it on twice in a row would end it; but the other must use its TURN between. */
    private static void byTurns() {
        String town = "person9;person9;person8;person7;person8;owes2 0;owes3 2;owes4 1;"
            + "grudge0 1;grudge2 1;grudge2 4;grudge3 4;";
        DeputyQuarrels x = Check.town(town + "quarrel0 1;");
        most(x, 0, 0);
        due("worth of what must not be used", x.worth(2), -1);
        x.bear(3, 4, false);
        most(x, 1, 1);
        x = Check.town("person9;person9;person8;person7;person8;person7;owes2 1;owes3 2;owes4 0;owes5 4;"
            + "grudge0 1;grudge4 1;grudge4 2;grudge5 2;grudge5 3;quarrel0 1;");
        most(x, 0, 0);
        due("worth of what must not be used", x.worth(3), -1);
        x.bear(3, 5, false);
        most(x, 1, 1);
    }

    private static void notTheOtherSide() {
        DeputyQuarrels x = Check.town("person1;person1;person0;owes2 0;grudge0 2;quarrel0 2;quarrel2 0;");
        most(x, 0, 0);
        due("worth", x.worth(0), 0);
        x.bear(0, 2, false);
        most(x, 2, 3);
    }
}
