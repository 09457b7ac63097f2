/** Promises 23 and 24: turns that are owed but once. */
public final class OnceTest {
    private static final int UNKNOWN = -1001, OUTSIDE = -1002, NOT = -1003;

    public static void main(String[] args) {
        oneTurnForTwo();
        orderMatters();
        aTurnTooMany();
        endedAndStanding();
        lawsHold();
        eightAtMost();
        Check.close();
    }

    private static void due(String call, long got, long want) {
        Check.due(call, got, want);
    }

    private static void most(DeputyQuarrels x, int many, int set) {
        due("most(0)", x.most(0), many);
        due("most(1)", x.most(1), set);
    }

    private static void oneTurnForTwo() {
        DeputyQuarrels x = Check.town("person1;person1;person0;owes2 0;grudge0 1;quarrel0 1;quarrel0 1;quarrel1 0;");
        most(x, 1, 1);
        due("worth", x.worth(0), 1);
        due("worth", x.worth(1), UNKNOWN);
        due("worth", x.worth(-1), UNKNOWN);
        due("most", x.most(2), OUTSIDE);
        due("most", x.most(-1), OUTSIDE);
        x.hand(0, 2);
        most(x, 1, 1);
        due("most changes nothing", x.quarrel(0, 0), 2);
        x.bear(2, 1, true);
        most(x, 0, 0);
        due("worth", x.worth(0), 0);
        x.bear(0, 1, false);
        most(x, 3, 7);
        due("worth", x.worth(0), 0);
    }

    /** QUARREL 0 may take either turn, 1 needs the first; so the one must leave it to the other. */
    private static void orderMatters() {
        DeputyQuarrels x = Check.town("person1;person1;person0;person0;person1;owes2 0;owes3 0;"
            + "grudge0 1;grudge0 4;grudge3 4;quarrel0 1;quarrel0 4;");
        most(x, 2, 3);
        due("worth", x.worth(0), 1);
        due("worth", x.worth(1), 1);
        x.bear(2, 4, true);
        most(x, 1, 1);
        due("worth", x.worth(0), 0);
        x.bear(1, 2, true);
        x.bear(1, 3, true);
        x.bear(2, 4, false);
        most(x, 1, 2);
        due("worth: 0 must take 2 or 3 by chance", x.worth(0), 1);
        due("worth", x.worth(1), 0);
    }

    /** Side 0 must hand it to 2; had it nobody, side 1 would end it by 3. */
    private static void aTurnTooMany() {
        DeputyQuarrels x = Check.town("person1;person1;person0;person0;owes2 0;owes3 1;"
            + "grudge0 1;grudge2 1;grudge2 3;quarrel0 1;");
        most(x, 0, 0);
        due("worth", x.worth(0), -1);
        due("worth", x.worth(1), 0);
        DeputyQuarrels y = Check.town("person1;person1;person0;person0;owes2 0;owes3 1;"
            + "grudge0 1;grudge2 1;grudge2 3;quarrel0 1;quarrel0 2;");
        y.bear(0, 2, true);
        most(y, 0, 0);
        y.bear(0, 2, false);
        most(y, 1, 2);
    }

    private static void endedAndStanding() {
        DeputyQuarrels x = Check.town("person1;person1;person1;grudge0 1;quarrel0 1;quarrel0 2;quarrel0 1;quarrel1 2;");
        most(x, 2, 10);
        DeputyQuarrels y = Check.town("person1;person1;grudge0 1;");
        most(y, 0, 0);
    }

    private static void lawsHold() {
        DeputyQuarrels x = Check.town("person1;person1;person1;owes2 0;owes0 2;owes1 2;grudge0 1;grudge1 2;quarrel0 1;");
        most(x, 0, 0);
        x.law(0, 2);
        most(x, 0, 0);
        x.bear(2, 1, false);
        most(x, 1, 1);
        DeputyQuarrels y = Check.town("person1;person1;person1;person1;owes2 0;owes0 2;owes3 0;"
            + "grudge0 1;grudge1 2;quarrel0 1;");
        y.law(0, 2);
        most(y, 1, 1);
        due("worth", y.worth(2), 1);
        y.bear(0, 3, true);
        most(y, 1, 1);
        y.law(1, 1);
        most(y, 1, 1);
        Check.tell(y, "person1;person1;person1;person1;owes2 0;owes0 2;owes3 0;owes3 2;"
            + "grudge0 1;grudge1 2;grudge1 3;grudge0 3;quarrel2 1;");
        y.law(1, 0);
        y.town();
        most(y, 0, 0);
        y.bear(1, 3, false);
        most(y, 1, 1);
    }

    private static void eightAtMost() {
        String eight = "person1;person1;person1;person1;owes0 1;owes0 2;owes0 3;owes1 0;owes1 2;owes1 3;owes2 0;owes2 1;";
        DeputyQuarrels x = Check.town(eight + "quarrel0 1;");
        most(x, 1, 1);
        due("worth", x.worth(7), 0);
        DeputyQuarrels y = Check.town(eight + "owes2 3;quarrel0 1;");
        due("most", y.most(0), NOT);
        due("most", y.most(2), OUTSIDE);
        due("worth", y.worth(0), NOT);
        due("worth", y.worth(9), UNKNOWN);
    }
}
