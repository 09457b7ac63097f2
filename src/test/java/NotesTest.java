/** Promises 25 to 29: the log, what was seen. */
public final class NotesTest {
    private static final int NONE = -1, UNKNOWN = -1001, OUTSIDE = -1002, NOT = -1003, FULL = -1004;
    /** 0: by 2 to 4, or by 3; 1: by 5; 0 is at peace with none but 5, 4 with 1. */
    private static final String TOWN = "person2;person2;person1;person1;person0;person1;"
        + "owes2 0;owes3 0;owes4 2;owes5 1;grudge0 1;grudge2 1;grudge3 1;grudge2 5;grudge3 5;grudge4 5;quarrel0 1;";

    public static void main(String[] args) {
        limits();
        judging();
        judgingPasses();
        judgingEnded();
        having();
        havingEnded();
        havingRound();
        noQuarrel();
        fortyHandings();
        twentySeen();
        endedWithTakers();
        behindAStand();
        manyWays();
        seenAtTheEdges();
        Check.close();
    }

    private static void due(String call, long got, long want) {
        Check.due(call, got, want);
    }

    private static void limits() {
        DeputyQuarrels x = Check.town("person1;person1;");
        for (int i = 1; i <= 40; i++) due("log", x.log(0, i % 2), i);
        due("log", x.log(0, 1), FULL);
        due("log", x.log(0, 2), UNKNOWN);
        due("log", x.log(2, 0), UNKNOWN);
        due("log", x.log(-1, 0), UNKNOWN);
        due("log", x.log(0, -1), UNKNOWN);
        for (int i = 1; i <= 20; i++) due("seen", x.seen(i * 2, 0, true), i);
        due("seen", x.seen(0, 1, true), FULL);
        due("seen", x.seen(41, 1, true), OUTSIDE);
        due("seen", x.seen(-1, 1, true), OUTSIDE);
        due("seen", x.seen(-1, 2, true), UNKNOWN);
        due("seen", x.seen(0, -1, true), UNKNOWN);
        due("count(5)", x.count(5), 40);
        due("count(6)", x.count(6), 20);
        due("clear", x.clear(), 60);
        due("clear", x.clear(), 0);
        due("log", x.log(0, 0), 1);
        due("seen", x.seen(40, 0, false), 1);
    }

    private static void judge(DeputyQuarrels x, int wrong, int left, int how) {
        due("judge(0)", x.judge(0), wrong);
        due("judge(1)", x.judge(1), left);
        due("judge(2)", x.judge(2), how);
    }

    private static void judging() {
        DeputyQuarrels x = Check.town(TOWN);
        judge(x, NONE, 1, 0);
        due("judge", x.judge(3), OUTSIDE);
        due("judge", x.judge(-1), OUTSIDE);
        x.hand(0, 3);
        judge(x, NONE, 1, 0);
        x.log(1, 5);
        judge(x, 0, 1, 0);
        x.clear();
        x.log(0, 4);
        judge(x, 0, 1, 0);
        x.clear();
        x.log(0, 2);
        judge(x, NONE, 201, 0);
        x.log(2, 4);
        judge(x, 1, 201, 0);
        x.clear();
        x.log(0, 2);
        x.log(1, 5);
        judge(x, NONE, 205, 0);
        x.log(2, 3);
        judge(x, 2, 205, 0);
        x.log(2, 4);
        judge(x, 2, 205, 0);
        x.clear();
        x.log(0, 2);
        x.log(1, 5);
        x.log(2, 4);
        judge(x, NONE, 405, 2);
        x.log(5, 1);
        judge(x, 3, 405, 2);
        x.bear(4, 5, false);
        judge(x, 3, 405, 1);
        x.law(0, 3);
        judge(x, 0, 1, 2);
    }

    /** Side 1 has nobody from the beginning, so each HANDING is side 0's. */
    private static void judgingPasses() {
        DeputyQuarrels x = Check.town("person3;person3;person2;person1;owes2 1;owes3 2;grudge0 1;grudge0 2;quarrel0 1;");
        x.log(1, 2);
        judge(x, NONE, 2, 0);
        x.log(0, 1);
        judge(x, 1, 2, 0);
        x.clear();
        x.log(1, 2);
        x.log(2, 3);
        judge(x, NONE, 3, 1);
        x.law(1, 1);
        judge(x, NONE, 3, 1);
        x.log(3, 3);
        judge(x, 2, 3, 1);
        DeputyQuarrels y = Check.town("person1;person1;person1;owes0 2;owes2 0;grudge0 1;grudge1 2;quarrel0 1;");
        y.law(0, 2);
        y.log(0, 2);
        y.log(2, 0);
        y.log(0, 2);
        judge(y, NONE, 201, 0);
        y.law(1, 1);
        judge(y, 1, 201, 2);
    }

    private static void judgingEnded() {
        DeputyQuarrels x = Check.town("person2;person2;person1;owes2 0;quarrel0 1;");
        judge(x, NONE, 1, 1);
        x.log(0, 2);
        judge(x, 0, 1, 1);
        x.bear(0, 1, true);
        judge(x, NONE, 201, 1);
    }

    private static void have(DeputyQuarrels x, int... want) {
        for (int n = 0; n < want.length; n++) due("have(" + n + ")", x.have(n), want[n]);
    }

    private static void having() {
        DeputyQuarrels x = Check.town(TOWN);
        due("have", x.have(-1), OUTSIDE);
        due("have", x.have(41), OUTSIDE);
        have(x, 3, 14, 44, 56, 56);
        x.seen(1, 2, false);
        have(x, 3, 10, 40, 40, 40);
        x.clear();
        x.seen(3, 4, true);
        have(x, 3, 14, 44, 48, 48);
        x.seen(1, 3, true);
        have(x, 3, 10, 40, 0, 0);
        x.clear();
        x.seen(0, 0, false);
        have(x, 0, 0, 0);
        due("have(40)", x.have(40), 0);
        x.clear();
        x.seen(1, 1, true);
        x.seen(1, 1, true);
        x.seen(2, 1, false);
        x.seen(9, 2, true);
        have(x, 3, 14, 44, 56, 56, 56, 56, 56, 56, 0, 0);
        x.hand(0, 3);
        due("from its beginning", x.have(1), 14);
    }

    private static void havingEnded() {
        DeputyQuarrels x = Check.town("person2;person2;person1;person1;person0;"
            + "owes2 0;owes3 0;owes4 3;grudge0 1;grudge3 1;quarrel0 1;");
        have(x, 3, 14, 14, 22, 22, 22);
        x.seen(40, 2, true);
        have(x, 3, 14, 14, 22);
        due("it stays with those who have it", x.have(40), 6);
    }

    private static void havingRound() {
        DeputyQuarrels x = Check.town("person1;person1;person1;owes0 2;owes2 0;grudge0 1;grudge1 2;quarrel0 1;");
        have(x, 3, 3, 3);
        x.law(0, 2);
        have(x, 3, 6, 6, 3, 3, 6, 6, 3);
        due("have(40)", x.have(40), 3);
        due("have(38)", x.have(38), 6);
        x.law(1, 1);
        have(x, 3, 6, 6, 6);
    }

    private static void noQuarrel() {
        DeputyQuarrels x = Check.town("person1;person1;");
        due("judge", x.judge(0), NOT);
        due("judge", x.judge(3), OUTSIDE);
        due("have", x.have(0), NOT);
        due("have", x.have(-1), OUTSIDE);
        due("log", x.log(0, 1), 1);
        due("seen", x.seen(0, 1, true), 1);
    }

    /** 0 and 2 hand it to and fro, 1 passes each time: all forty count, and the fortieth as well as the first. */
    private static void fortyHandings() {
        DeputyQuarrels x = Check.town("person1;person1;person1;owes0 2;owes2 0;grudge0 1;grudge1 2;quarrel0 1;");
        x.law(0, 2);
        for (int i = 0; i < 39; i++) due("log", x.log(i % 2 * 2, 2 - i % 2 * 2), i + 1);
        judge(x, NONE, 201, 0);
        due("log", x.log(2, 0), 40);
        judge(x, NONE, 1, 0);
        due("log", x.log(0, 2), FULL);
        judge(x, NONE, 1, 0);
        due("clear", x.clear(), 40);
        judge(x, NONE, 1, 0);
        for (int i = 0; i < 39; i++) x.log(i % 2 * 2, 2 - i % 2 * 2);
        due("log", x.log(2, 1), 40);
        judge(x, 39, 201, 0);
        x.law(1, 1);
        judge(x, 1, 201, 2);
        x.bear(2, 1, false);
        judge(x, 1, 201, 1);
    }

    /** The twentieth counts, one more is refused. */
    private static void twentySeen() {
        DeputyQuarrels x = Check.town("person1;person1;person1;owes0 2;owes2 0;grudge0 1;grudge1 2;quarrel0 1;");
        x.law(0, 2);
        for (int i = 1; i < 20; i++) due("seen", x.seen(4, 0, true), i);
        have(x, 3, 6, 6, 3, 3, 6);
        due("seen", x.seen(0, 1, true), 20);
        have(x, 3, 6, 6, 3, 3, 6);
        due("seen", x.seen(0, 1, false), FULL);
        have(x, 3, 6, 6, 3, 3, 6);
        due("clear", x.clear(), 20);
        for (int i = 1; i < 20; i++) x.seen(4, 0, true);
        due("seen", x.seen(0, 1, false), 20);
        have(x, 0, 0);
        due("count", x.count(6), 20);
    }

    /** An ENDED one goes on no more, though there were who may have it. */
    private static void endedWithTakers() {
        DeputyQuarrels x = Check.town("person2;person2;person1;person0;person1;owes2 0;owes3 2;owes4 1;quarrel0 1;");
        have(x, 3, 3, 3);
        due("have(40)", x.have(40), 3);
        x.log(0, 2);
        judge(x, 0, 1, 1);
        x.bear(0, 1, true);
        have(x, 3, 6, 6, 6);
        due("have(40)", x.have(40), 6);
        judge(x, NONE, 201, 1);
        x.log(1, 4);
        judge(x, 1, 201, 1);
        x.seen(40, 3, false);
        due("have(40)", x.have(40), 6);
        x.seen(39, 2, false);
        due("have(40)", x.have(40), 0);
        due("have(39)", x.have(39), 0);
        due("have(38)", x.have(38), 6);
    }

    private static void behindAStand() {
        DeputyQuarrels x = Check.town("person2;person2;person1;owes2 0;grudge0 1;grudge1 2;quarrel0 1;");
        have(x, 3, 6, 6, 6);
        due("have(40)", x.have(40), 6);
        x.log(0, 2);
        judge(x, NONE, 201, 2);
        x.log(2, 0);
        judge(x, 1, 201, 2);
        x.clear();
        x.log(0, 0);
        judge(x, 0, 1, 0);
        x.clear();
        x.log(2, 0);
        judge(x, 0, 1, 0);
    }

    /** Behind 0 it is as told; of what was SEEN behind 40 only have(40) knows. */
    private static void seenAtTheEdges() {
        DeputyQuarrels x = Check.town("person1;person1;person1;owes0 2;owes2 0;grudge0 1;grudge1 2;quarrel0 1;");
        x.law(0, 2);
        x.seen(0, 0, true);
        have(x, 3, 6);
        x.seen(40, 2, true);
        due("have(39)", x.have(39), 3);
        due("have(40)", x.have(40), 0);
        x.clear();
        x.seen(40, 0, true);
        due("have(40)", x.have(40), 3);
        due("seen(41)", x.seen(41, 0, false), OUTSIDE);
        due("seen(-1)", x.seen(-1, 0, false), OUTSIDE);
        due("have(40)", x.have(40), 3);
        x.seen(0, 2, true);
        have(x, 0, 0);
        due("have(40)", x.have(40), 0);
        due("have(41)", x.have(41), OUTSIDE);
        due("have(-1)", x.have(-1), OUTSIDE);
    }

    /** Each side has two to hand it to, and 6 comes behind 3 alone. */
    private static void manyWays() {
        DeputyQuarrels x = Check.town("person2;person2;person1;person1;person1;person1;person0;"
            + "owes2 0;owes3 0;owes4 1;owes5 1;owes6 3;grudge0 1;grudge2 1;grudge3 1;"
            + "grudge2 4;grudge2 5;grudge3 4;grudge3 5;grudge6 4;grudge6 5;quarrel0 1;");
        have(x, 3, 14, 60, 116, 116);
        x.seen(2, 4, false);
        have(x, 3, 14, 44, 100, 100);
        x.seen(3, 6, true);
        have(x, 3, 14, 44, 96, 96);
        x.clear();
        x.seen(3, 6, false);
        x.seen(1, 3, true);
        have(x, 3, 10, 56, 0, 0);
    }
}
