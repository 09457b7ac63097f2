/** Promises 25 to 29: the log, what was seen. */
public final class NotesTest {
    private static final int NONE = -1, UNKNOWN = -1001, OUTSIDE = -1002, NOT = -1003, FULL = -1004;
    /** 0: by 2 to 4, or by 3; 1: by 5; 0 is at peace with none but 5, 4 with 1. */
    private static final String TOWN = "person2;person2;person1;person1;person0;person1;"
        + "owes2 0;owes3 0;owes4 2;owes5 1;grudge0 1;grudge2 1;grudge3 1;grudge2 5;grudge3 5;grudge4 5;quarrel0 1;";

    public static void main(String[] args) {
        limits();
        judging();
        judgingPasses();
        judgingEnded();
        having();
        havingEnded();
        havingRound();
        noQuarrel();
        Check.close();
    }

    private static void due(String call, long got, long want) {
        Check.due(call, got, want);
    }

    private static void limits() {
        DeputyQuarrels x = Check.town("person1;person1;");
        for (int i = 1; i <= 40; i++) due("log", x.log(0, i % 2), i);
        due("log", x.log(0, 1), FULL);
        due("log", x.log(0, 2), UNKNOWN);
        due("log", x.log(2, 0), UNKNOWN);
        due("log", x.log(-1, 0), UNKNOWN);
        due("log", x.log(0, -1), UNKNOWN);
        for (int i = 1; i <= 20; i++) due("seen", x.seen(i * 2, 0, true), i);
        due("seen", x.seen(0, 1, true), FULL);
        due("seen", x.seen(41, 1, true), OUTSIDE);
        due("seen", x.seen(-1, 1, true), OUTSIDE);
        due("seen", x.seen(-1, 2, true), UNKNOWN);
        due("seen", x.seen(0, -1, true), UNKNOWN);
        due("count(5)", x.count(5), 40);
        due("count(6)", x.count(6), 20);
        due("clear", x.clear(), 60);
        due("clear", x.clear(), 0);
        due("log", x.log(0, 0), 1);
        due("seen", x.seen(40, 0, false), 1);
    }

    private static void judge(DeputyQuarrels x, int wrong, int left, int how) {
        due("judge(0)", x.judge(0), wrong);
        due("judge(1)", x.judge(1), left);
        due("judge(2)", x.judge(2), how);
    }

    private static void judging() {
        DeputyQuarrels x = Check.town(TOWN);
        judge(x, NONE, 1, 0);
        due("judge", x.judge(3), OUTSIDE);
        due("judge", x.judge(-1), OUTSIDE);
        x.hand(0, 3);
        judge(x, NONE, 1, 0);
        x.log(1, 5);
        judge(x, 0, 1, 0);
        x.clear();
        x.log(0, 4);
        judge(x, 0, 1, 0);
        x.clear();
        x.log(0, 2);
        judge(x, NONE, 201, 0);
        x.log(2, 4);
        judge(x, 1, 201, 0);
        x.clear();
        x.log(0, 2);
        x.log(1, 5);
        judge(x, NONE, 205, 0);
        x.log(2, 3);
        judge(x, 2, 205, 0);
        x.log(2, 4);
        judge(x, 2, 205, 0);
        x.clear();
        x.log(0, 2);
        x.log(1, 5);
        x.log(2, 4);
        judge(x, NONE, 405, 2);
        x.log(5, 1);
        judge(x, 3, 405, 2);
        x.bear(4, 5, false);
        judge(x, 3, 405, 1);
        x.law(0, 3);
        judge(x, 0, 1, 2);
    }

    /** Side 1 has nobody from the beginning, so each HANDING is side 0's. */
    private static void judgingPasses() {
        DeputyQuarrels x = Check.town("person3;person3;person2;person1;owes2 1;owes3 2;grudge0 1;grudge0 2;quarrel0 1;");
        x.log(1, 2);
        judge(x, NONE, 2, 0);
        x.log(0, 1);
        judge(x, 1, 2, 0);
        x.clear();
        x.log(1, 2);
        x.log(2, 3);
        judge(x, NONE, 3, 1);
        x.law(1, 1);
        judge(x, NONE, 3, 1);
        x.log(3, 3);
        judge(x, 2, 3, 1);
        DeputyQuarrels y = Check.town("person1;person1;person1;owes0 2;owes2 0;grudge0 1;grudge1 2;quarrel0 1;");
        y.law(0, 2);
        y.log(0, 2);
        y.log(2, 0);
        y.log(0, 2);
        judge(y, NONE, 201, 0);
        y.law(1, 1);
        judge(y, 1, 201, 2);
    }

    private static void judgingEnded() {
        DeputyQuarrels x = Check.town("person2;person2;person1;owes2 0;quarrel0 1;");
        judge(x, NONE, 1, 1);
        x.log(0, 2);
        judge(x, 0, 1, 1);
        x.bear(0, 1, true);
        judge(x, NONE, 201, 1);
    }

    private static void have(DeputyQuarrels x, int... want) {
        for (int n = 0; n < want.length; n++) due("have(" + n + ")", x.have(n), want[n]);
    }

    private static void having() {
        DeputyQuarrels x = Check.town(TOWN);
        due("have", x.have(-1), OUTSIDE);
        due("have", x.have(41), OUTSIDE);
        have(x, 3, 14, 44, 56, 56);
        x.seen(1, 2, false);
        have(x, 3, 10, 40, 40, 40);
        x.clear();
        x.seen(3, 4, true);
        have(x, 3, 14, 44, 48, 48);
        x.seen(1, 3, true);
        have(x, 3, 10, 40, 0, 0);
        x.clear();
        x.seen(0, 0, false);
        have(x, 0, 0, 0);
        due("have(40)", x.have(40), 0);
        x.clear();
        x.seen(1, 1, true);
        x.seen(1, 1, true);
        x.seen(2, 1, false);
        x.seen(9, 2, true);
        have(x, 3, 14, 44, 56, 56, 56, 56, 56, 56, 0, 0);
        x.hand(0, 3);
        due("from its beginning", x.have(1), 14);
    }

    private static void havingEnded() {
        DeputyQuarrels x = Check.town("person2;person2;person1;person1;person0;"
            + "owes2 0;owes3 0;owes4 3;grudge0 1;grudge3 1;quarrel0 1;");
        have(x, 3, 14, 14, 22, 22, 22);
        x.seen(40, 2, true);
        have(x, 3, 14, 14, 22);
        due("it stays with those who have it", x.have(40), 6);
    }

    private static void havingRound() {
        DeputyQuarrels x = Check.town("person1;person1;person1;owes0 2;owes2 0;grudge0 1;grudge1 2;quarrel0 1;");
        have(x, 3, 3, 3);
        x.law(0, 2);
        have(x, 3, 6, 6, 3, 3, 6, 6, 3);
        due("have(40)", x.have(40), 3);
        due("have(38)", x.have(38), 6);
        x.law(1, 1);
        have(x, 3, 6, 6, 6);
    }

    private static void noQuarrel() {
        DeputyQuarrels x = Check.town("person1;person1;");
        due("judge", x.judge(0), NOT);
        due("judge", x.judge(3), OUTSIDE);
        due("have", x.have(0), NOT);
        due("have", x.have(-1), OUTSIDE);
        due("log", x.log(0, 1), 1);
        due("seen", x.seen(0, 1, true), 1);
    }
}
