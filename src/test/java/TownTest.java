/** Promises 1 to 10: the town. */
public final class TownTest {
    private static final int NONE = -1, UNKNOWN = -1001, OUTSIDE = -1002, NOT = -1003, FULL = -1004;
    private static final String TWO = "person1;person1;";

    public static void main(String[] args) {
        constants();
        newObject();
        feeding();
        towns();
        faults();
        faultsOfNumbersTold();
        faultKeepsAll();
        townForgets();
        imagesGo();
        textFedAlone();
        townBehindAFault();
        textsOneByOne();
        grudgesOfAFaultyText();
        fiveHundredBytes();
        personsAndTurns();
        fullTown();
        laws();
        grudges();
        Check.close();
    }

    private static void due(String call, long got, long want) {
        Check.due(call, got, want);
    }

    private static void constants() {
        due("NONE", DeputyQuarrels.NONE, NONE);
        due("UNKNOWN", DeputyQuarrels.UNKNOWN, UNKNOWN);
        due("OUTSIDE", DeputyQuarrels.OUTSIDE, OUTSIDE);
        due("NOT", DeputyQuarrels.NOT, NOT);
        due("FULL", DeputyQuarrels.FULL, FULL);
    }

    private static void newObject() {
        DeputyQuarrels x = new DeputyQuarrels();
        for (int what = 0; what < 7; what++) due("new: count", x.count(what), 0);
        due("count(7)", x.count(7), OUTSIDE);
        due("count(-1)", x.count(-1), OUTSIDE);
        due("fault", x.fault(), NONE);
        due("person", x.person(0, 9), UNKNOWN);
        due("turn", x.turn(0, 9), UNKNOWN);
        due("grudge", x.grudge(0), UNKNOWN);
        due("bear", x.bear(0, 1, true), UNKNOWN);
        due("quarrel", x.quarrel(0, 9), UNKNOWN);
        due("may", x.may(0), UNKNOWN);
        due("hand", x.hand(0, NONE), UNKNOWN);
        due("begin", x.begin(0), UNKNOWN);
        due("drift", x.drift(0, 0), UNKNOWN);
        due("comes", x.comes(0, 9), UNKNOWN);
        due("end", x.end(0, 0), UNKNOWN);
        due("forces", x.forces(0, 9), UNKNOWN);
        due("best", x.best(0, 9), UNKNOWN);
        due("sure", x.sure(0), UNKNOWN);
        due("aside", x.aside(0, 9), UNKNOWN);
        due("fresh", x.fresh(0, 9, 9), UNKNOWN);
        due("most", x.most(0), 0);
        due("most", x.most(1), 0);
        due("most", x.most(2), OUTSIDE);
        due("worth", x.worth(0), UNKNOWN);
        due("log", x.log(0, 0), UNKNOWN);
        due("clear", x.clear(), 0);
        due("judge", x.judge(0), NOT);
        due("judge", x.judge(3), OUTSIDE);
        due("seen", x.seen(41, 0, true), UNKNOWN);
        due("have", x.have(40), NOT);
        due("have", x.have(41), OUTSIDE);
        due("seed", x.seed(1), 0);
        due("goBack", x.goBack(0), NOT);
        due("keep", x.keep(1), 1);
        due("goBack", x.goBack(1), 1);
        due("law", x.law(0, 0), 0);
        due("law", x.law(1, 0), 0);
    }

    private static void feeding() {
        DeputyQuarrels x = new DeputyQuarrels();
        due("feed(0)", x.feed(0, 1), OUTSIDE);
        due("feed(9)", x.feed(9, 1), OUTSIDE);
        due("feed(-1)", x.feed(-1, 1), OUTSIDE);
        due("feed(MIN)", x.feed(Integer.MIN_VALUE, 1), OUTSIDE);
        due("feed(MAX)", x.feed(Integer.MAX_VALUE, 1), OUTSIDE);
        for (int i = 1; i <= 62; i++) due("feed(8)", x.feed(8, 0x2020202020202020L), 8 * i);
        due("feed(5) of 496", x.feed(5, 0), FULL);
        due("count(4)", x.count(4), 496);
        due("feed(9) of 496", x.feed(9, 0), OUTSIDE);
        due("feed(4) of 496", x.feed(4, 0x20202020L), 500);
        due("feed(1) of 500", x.feed(1, 0x20), FULL);
        due("500 blanks", x.town(), 0);
        due("count(4)", x.count(4), 0);
        for (char c : "person7;".toCharArray()) x.feed(1, 0xffffffffffffff00L | c);
        due("byte by byte", x.town(), 1);
        due("STEP", x.person(0, 0), 7);
        due("feed(8)", x.feed(8, 0x706572736f6e383bL), 8);
        due("the highest first", x.town(), 1);
        due("STEP", x.person(0, 0), 8);
    }

    private static void towns() {
        town("", 0);
        town("    ", 0);
        town("person0;", 1);
        town("  person  0  ;  ", 1);
        town("person 09;person00;", 2);
        town(TWO + "owes0 1;owes1 0;grudge0 1;quarrel0 1;quarrel0 1;quarrel1 0;quarrel 00 01 ;", 2);
        town("person0;".repeat(16) + "owes15 14;", 16);
        town("person0;".repeat(7) + turns(40), 7);
        town(TWO + "quarrel0 1;".repeat(4), 2);
        town("person1;owes 0 1;".substring(0, 8) + "person2;owes0 1;person3;owes2 1;", 3);
    }

    private static void town(String text, int persons) {
        DeputyQuarrels x = new DeputyQuarrels();
        Check.tell(x, text);
        due("town() of '" + text + "'", x.town(), persons);
        due("fault() of '" + text + "'", x.fault(), NONE);
    }

    private static String turns(int n) {
        StringBuilder s = new StringBuilder();
        for (int i = 0; i < n; i++) {
            int a = i / 6, b = i % 6;
            s.append("owes").append(a).append(' ').append(b < a ? b : b + 1).append(';');
        }
        return s.toString();
    }

    private static void faults() {
        fault("person;", 1, 6);
        fault("person", 1, 6);
        fault("person  ", 1, 8);
        fault("person 1", 1, 8);
        fault("person 1 ", 1, 9);
        fault("perso", 1, 0);
        fault(" perso 1;", 1, 1);
        fault("personx 1;", 1, 0);
        fault("persons 1;", 1, 0);
        fault("personz 1;", 1, 0);
        fault("per son 1;", 1, 0);
        fault("person x;", 1, 7);
        fault("person person 1;", 1, 7);
        fault("person 1x;", 1, 8);
        fault("person 1 owes;", 1, 9);
        fault("person 1 1;", 1, 9);
        fault("person 1 234;", 1, 9);
        fault("person 1;;", 1, 9);
        fault(";", 1, 0);
        fault("5;", 1, 0);
        fault("555;", 1, 0);
        fault("Person 1;", 1, 0);
        fault("persoN 1;", 1, 0);
        fault("personN 1;", 1, 6);
        fault("person\t1;", 1, 6);
        fault("person 1\n;", 1, 8);
        fault("person -1;", 1, 7);
        fault("person 1;\u00e9", 1, 9);
        fault("person 1;\u0000", 1, 9);
        fault("person 1;`", 1, 9);
        fault("person 1;{", 1, 9);
        fault("person /;", 1, 7);
        fault("person :;", 1, 7);
        fault(TWO + "owes0;", 1, 21);
        fault(TWO + "owes;", 1, 20);
        fault(TWO + "owes0 1", 1, 23);
        fault(TWO + "owes0 1 0;", 1, 24);
        fault(TWO + "owes0,1;", 1, 21);
        fault(TWO + "grudge0 1 ", 1, 26);
        fault(TWO + "owed0 1;", 1, 16);
        fault(TWO + "o wes0 1;", 1, 16);
    }

    private static void faultsOfNumbersTold() {
        fault("person 10;", 2, 7);
        fault("person 010;", 2, 7);
        fault("person 001;", 2, 7);
        fault("person 99", 2, 7);
        fault("person 12345678901234567890;", 2, 7);
        fault("owes 0 0;", 2, 5);
        fault("person1;owes0 1;person1;", 2, 14);
        fault(TWO + "owes2 2;", 2, 20);
        fault(TWO + "owes0 16;", 2, 22);
        fault(TWO + "owes0 100;", 2, 22);
        fault(TWO + "owes01;", 1, 22);
        fault(TWO + "grudge99 0;", 2, 22);
        fault(TWO + "quarrel0 2;", 2, 25);
        fault("person0;".repeat(17), 3, 128);
        fault("person0;".repeat(16) + "person99;", 3, 128);
        fault("person0;".repeat(16) + " person", 3, 129);
        fault("person0;".repeat(16) + "persona", 1, 128);
        fault("person0;".repeat(7) + turns(41), 3, 376);
        fault("person0;".repeat(7) + turns(40) + "owes0 1;", 3, 376);
        fault(TWO + "quarrel0 1;".repeat(5), 3, 60);
        fault(TWO + "quarrel0 1;".repeat(4) + "quarrel0 0;", 3, 60);
        fault(TWO + "owes0 0;", 4, 22);
        fault(TWO + "owes0 0", 4, 22);
        fault(TWO + "owes00  0;", 4, 24);
        fault(TWO + "owes0 1;owes1 0;owes0 1;", 4, 38);
        fault(TWO + "owes0 1;owes0  01;", 4, 31);
        fault(TWO + "grudge1 1;", 4, 24);
        fault(TWO + "grudge0 1;grudge0 1;", 4, 34);
        fault(TWO + "grudge0 1;grudge1 0;", 4, 34);
        fault(TWO + "quarrel1 1;", 4, 25);
        fault(TWO + "owes1 001;", 2, 22);
        fault(TWO + "owes0 1;owes0 001;", 2, 30);
        fault(TWO + "grudge0 000;", 2, 24);
        fault("person09;person9;person10;", 2, 23);
        fault("person9person9;", 1, 7);
        fault("person9;personperson9;", 1, 8);
        fault(TWO + "owes0 quarrel;", 1, 22);
        fault("person0;".repeat(16) + "owes0 16;", 2, 134);
        fault("person0;".repeat(16) + "owes15 15;", 4, 135);
        fault("person0;".repeat(7) + turns(40) + "owes", 3, 376);
        fault("person0;".repeat(7) + turns(40) + "owed0 1;", 1, 376);
        fault(TWO + "quarrel0 1;".repeat(4) + " quarrel", 3, 61);
        fault(TWO + "quarrel0 1;".repeat(4) + "quarrels0 1;", 1, 60);
        fault("   person", 1, 9);
        fault("   ;", 1, 3);
        fault("qerson1;", 1, 0);
        fault(TWO + "pwes0 1;", 1, 16);
        fault(TWO + "hrudge0 1;", 1, 16);
        fault(TWO + "ruarrel0 1;", 1, 16);
    }

    private static void fault(String text, int number, int place) {
        DeputyQuarrels x = new DeputyQuarrels();
        Check.tell(x, text);
        due("town() of '" + text + "'", x.town(), -10 - number);
        due("fault() of '" + text + "'", x.fault(), place);
        due("THE TEXT is empty", x.count(4), 0);
        due("no PERSONS", x.count(0), 0);
    }

    private static void faultKeepsAll() {
        DeputyQuarrels x = Check.town("person1;person1;person0;owes2 0;grudge0 1;grudge2 1;quarrel0 1;");
        x.hand(0, 2);
        x.log(0, 2);
        x.seen(1, 2, true);
        x.keep(1);
        Check.tell(x, "person1;person2;owes1 0;grudge0 1;quarrel0 1;person");
        due("town", x.town(), -11);
        due("fault", x.fault(), 51);
        int[] counts = {3, 1, 2, 1, 0, 1, 1};
        for (int i = 0; i < 7; i++) due("count", x.count(i), counts[i]);
        due("person", x.person(1, 0), 1);
        due("turn", x.turn(0, 0), 2);
        due("grudge", x.grudge(1), 201);
        due("quarrel", x.quarrel(0, 0), 2);
        due("quarrel", x.quarrel(0, 6), 1);
        due("goBack", x.goBack(1), 1);
    }

    private static void townForgets() {
        DeputyQuarrels x = Check.town("person1;person1;person0;owes2 0;grudge0 1;grudge2 1;quarrel0 1;");
        x.law(0, 1);
        x.law(1, 1);
        x.seed(77);
        x.hand(0, 2);
        x.log(0, 2);
        x.seen(1, 2, true);
        x.keep(1);
        x.bear(0, 2, true);
        Check.tell(x, "person1;person2;owes1 0;grudge0 1;quarrel1 0;");
        due("town", x.town(), 2);
        int[] counts = {2, 1, 1, 1, 0, 0, 0};
        for (int i = 0; i < 7; i++) due("count", x.count(i), counts[i]);
        int[] how = {1, 0, 0, -1, -1, 2, 0};
        for (int i = 0; i < 7; i++) due("quarrel", x.quarrel(0, i), how[i]);
        due("goBack", x.goBack(1), NOT);
        due("law 0 stays", x.law(0, 0), 1);
        due("law 1 stays", x.law(1, 0), 1);
        due("seed stays", x.seed(0), 77);
        due("an empty town", x.town(), 0);
        for (int i = 0; i < 7; i++) due("count", x.count(i), 0);
    }

    private static void imagesGo() {
        for (int i = 0; i < 2; i++) {
            DeputyQuarrels x = Check.town(TWO);
            due("keep", x.keep(i), 1);
            Check.tell(x, "person");
            due("town", x.town(), -11);
            due("a FAULT leaves IMAGES", x.goBack(i), 1);
            Check.tell(x, TWO);
            due("town", x.town(), 2);
            due("IMAGES are gone", x.goBack(i), NOT);
            due("the other", x.goBack(1 - i), NOT);
        }
    }

    /** THE TEXT alone is no town yet. */
    private static void textFedAlone() {
        DeputyQuarrels x = new DeputyQuarrels();
        Check.tell(x, TWO + "grudge0 1;quarrel0 1;");
        due("count(4)", x.count(4), 37);
        for (int i = 0; i < 4; i++) due("count", x.count(i), 0);
        due("person", x.person(0, 0), UNKNOWN);
        due("quarrel", x.quarrel(0, 0), UNKNOWN);
        due("judge", x.judge(0), NOT);
        due("have", x.have(0), NOT);
        due("most", x.most(0), 0);
        due("town", x.town(), 2);
        due("quarrel", x.quarrel(0, 5), 2);
    }

    /** The place is that of the latest town(), and nothing of the faulty text is left. */
    private static void townBehindAFault() {
        DeputyQuarrels x = new DeputyQuarrels();
        Check.tell(x, TWO + "owes0 1;grudge0 1;quarrel0 1;;");
        due("town", x.town(), -11);
        due("fault", x.fault(), 45);
        due("an empty text", x.town(), 0);
        due("fault", x.fault(), NONE);
        Check.tell(x, "person1;person1;owes0 1;owes0 1;");
        due("town", x.town(), -14);
        due("fault", x.fault(), 30);
        Check.tell(x, "person1;person1;owes0 1;grudge0 2;");
        due("town", x.town(), -12);
        due("fault", x.fault(), 32);
        Check.tell(x, TWO + "owes0 1;grudge1 0;quarrel0 1;");
        due("town", x.town(), 2);
        due("fault", x.fault(), NONE);
        due("TURNS", x.count(1), 1);
        due("grudges", x.count(2), 1);
        due("QUARRELS", x.count(3), 1);
        Check.tell(x, ":");
        due("town", x.town(), -11);
        due("fault", x.fault(), 0);
        Check.tell(x, "      ");
        due("blanks alone", x.town(), 0);
        due("fault", x.fault(), NONE);
        for (int i = 0; i < 7; i++) due("count", x.count(i), 0);
        due("person", x.person(0, 0), UNKNOWN);
        due("quarrel", x.quarrel(0, 0), UNKNOWN);
        due("judge", x.judge(0), NOT);
    }

    /** The end is at the text's length, whatever a longer text held there. */
    private static void textsOneByOne() {
        DeputyQuarrels x = Check.town("person1;person2;");
        Check.tell(x, "person1");
        due("town", x.town(), -11);
        due("fault", x.fault(), 7);
        Check.tell(x, "person1;perso");
        due("town", x.town(), -11);
        due("fault", x.fault(), 8);
        Check.tell(x, "person");
        due("town", x.town(), -11);
        due("fault", x.fault(), 6);
        Check.tell(x, "person3;");
        due("town", x.town(), 1);
        due("STEP", x.person(0, 0), 3);
    }

    private static DeputyQuarrels fed500(String text) {
        DeputyQuarrels x = new DeputyQuarrels();
        Check.tell(x, text);
        due("bytes", x.count(4), 500);
        due("one more", x.feed(1, ';'), FULL);
        due("eight more", x.feed(8, ';'), FULL);
        due("bytes", x.count(4), 500);
        return x;
    }

    private static void fiveHundredBytes() {
        String blanks = " ".repeat(484);
        DeputyQuarrels x = fed500("person4;" + blanks + "person5;");
        due("town", x.town(), 2);
        due("fault", x.fault(), NONE);
        due("STEP", x.person(1, 0), 5);
        due("feed", x.feed(1, ' '), 1);
        x = fed500("person4;" + blanks + " person5");
        due("not closed", x.town(), -11);
        due("the end", x.fault(), 500);
        x = fed500("person4;" + blanks + "person5:");
        due("closed by another sign", x.town(), -11);
        due("the last byte", x.fault(), 499);
        x = fed500(" ".repeat(494) + "person");
        due("a word alone", x.town(), -11);
        due("the end", x.fault(), 500);
        x = fed500(" ".repeat(499) + "p");
        due("a letter alone", x.town(), -11);
        due("the last byte", x.fault(), 499);
        x = fed500("person" + " ".repeat(493) + "1");
        due("a NUMBER alone", x.town(), -11);
        due("the end", x.fault(), 500);
        x = fed500("person" + "1".repeat(494));
        due("a long NUMBER", x.town(), -12);
        due("its first", x.fault(), 6);
        x = fed500("p".repeat(500));
        due("a long word", x.town(), -11);
        due("its first letter", x.fault(), 0);
        DeputyQuarrels y = new DeputyQuarrels();
        Check.tell(y, " ".repeat(492));
        due("8 to 500", y.feed(8, 0x706572736f6e373bL), 500);
        due("town", y.town(), 1);
        Check.tell(y, " ".repeat(493));
        due("8 to 501", y.feed(8, 0x706572736f6e373bL), FULL);
        due("7 to 500", y.feed(7, 0x20202020202020L), 500);
        due("town", y.town(), 0);
    }

    /** 16 PERSONS, 40 TURNS, four QUARRELS: the last of each is there, and none behind it. */
    private static void fullTown() {
        DeputyQuarrels x = Check.town("person0;".repeat(15) + "person9;" + turns(39) + "owes15 0;"
            + "quarrel0 1;quarrel1 2;quarrel2 3;quarrel15 14;");
        int[] counts = {16, 40, 0, 4};
        for (int i = 0; i < 4; i++) due("count", x.count(i), counts[i]);
        due("STEP", x.person(14, 0), 0);
        due("STEP", x.person(15, 0), 9);
        due("who owe 0", x.person(0, 1), 0x8000 | 0x7e);
        due("to whom 15 owes", x.person(15, 2), 1);
        due("grudge of 15", x.bear(15, 14, true), 1);
        due("grudges of 14", x.person(14, 3), 0x8000);
        due("grudges of 15", x.person(15, 3), 0x4000);
        due("person 16", x.person(16, 0), UNKNOWN);
        due("turn", x.turn(39, 0), 15);
        due("turn", x.turn(39, 1), 0);
        due("turn 40", x.turn(40, 0), UNKNOWN);
        due("quarrel", x.quarrel(3, 0), 15);
        due("quarrel", x.quarrel(3, 1), 14);
        due("quarrel 4", x.quarrel(4, 0), UNKNOWN);
        due("bear 16", x.bear(16, 0, true), UNKNOWN);
        due("log 16", x.log(16, 15), UNKNOWN);
        due("log 15", x.log(15, 0), 1);
        due("seen 16", x.seen(0, 16, true), UNKNOWN);
        due("seen 15", x.seen(0, 15, true), 1);
    }

    private static void personsAndTurns() {
        DeputyQuarrels x = Check.town("person3;person9;person0;owes2 0;owes1 0;owes0 2;grudge2 0;");
        int[][] want = {{3, 6, 4, 4}, {9, 0, 1, 0}, {0, 1, 1, 1}};
        for (int p = 0; p < 3; p++) {
            for (int what = 0; what < 4; what++) due("person", x.person(p, what), want[p][what]);
        }
        due("person", x.person(0, 4), OUTSIDE);
        due("person", x.person(0, -1), OUTSIDE);
        due("person", x.person(3, 4), UNKNOWN);
        due("person", x.person(-1, 0), UNKNOWN);
        due("turn", x.turn(0, 0), 2);
        due("turn", x.turn(0, 1), 0);
        due("turn", x.turn(2, 0), 0);
        due("turn", x.turn(2, 1), 2);
        due("turn", x.turn(2, 2), OUTSIDE);
        due("turn", x.turn(2, -1), OUTSIDE);
        due("turn", x.turn(3, 2), UNKNOWN);
        due("turn", x.turn(-1, 0), UNKNOWN);
    }

    private static void laws() {
        DeputyQuarrels x = Check.town("person2;person2;person1;person0;person2;person3;person4;"
            + "owes2 0;owes3 0;owes4 0;owes5 0;owes6 0;owes1 0;grudge0 1;quarrel0 1;");
        due("may, a STEP lower", x.may(0), 4);
        due("law", x.law(0, 1), 0);
        due("may, any STEP lower", x.may(0), 12);
        due("law", x.law(0, 2), 1);
        due("may, any STEP", x.may(0), 124);
        due("law", x.law(0, 3), 2);
        due("may, a STEP higher", x.may(0), 32);
        due("law", x.law(0, 4), OUTSIDE);
        due("law", x.law(0, -1), OUTSIDE);
        due("law", x.law(1, 2), OUTSIDE);
        due("law", x.law(1, -1), OUTSIDE);
        due("law", x.law(2, 0), OUTSIDE);
        due("law", x.law(-1, 0), OUTSIDE);
        due("may", x.may(0), 32);
        due("law", x.law(0, 0), 3);
        due("law", x.law(1, 1), 0);
        due("law", x.law(1, 1), 1);
        due("law", x.law(1, 0), 1);
        due("law", x.law(1, 0), 0);
    }

    private static void grudges() {
        DeputyQuarrels x = Check.town("person1;person1;person1;person1;grudge1 0;grudge2 3;grudge0 3;quarrel0 1;");
        due("grudge", x.grudge(0), 100);
        due("grudge", x.grudge(2), 3);
        due("grudge", x.grudge(3), UNKNOWN);
        due("grudge", x.grudge(-1), UNKNOWN);
        due("bear one", x.bear(0, 0, true), UNKNOWN);
        due("bear 4", x.bear(0, 4, true), UNKNOWN);
        due("bear -1", x.bear(-1, 0, false), UNKNOWN);
        due("bear again", x.bear(0, 1, true), NOT);
        due("bear no more, not so", x.bear(0, 2, false), NOT);
        due("STANDS", x.quarrel(0, 5), 2);
        due("bear no more", x.bear(0, 1, false), 2);
        due("ENDED", x.quarrel(0, 5), 1);
        due("the last takes its number", x.grudge(0), 3);
        due("grudge", x.grudge(1), 203);
        due("grudge", x.grudge(2), UNKNOWN);
        due("bear", x.bear(3, 1, true), 3);
        due("grudge", x.grudge(2), 301);
        due("person", x.person(1, 3), 8);
        due("person", x.person(3, 3), 7);
        due("the last itself", x.bear(1, 3, false), 2);
        due("grudge", x.grudge(1), 203);
        due("person", x.person(1, 3), 0);
        x = Check.town("person1;person1;person1;grudge0 1;grudge0 2;grudge2 1;");
        due("only that of these two", x.bear(2, 0, false), 2);
        due("grudge", x.grudge(0), 1);
        due("the last takes its number", x.grudge(1), 201);
        due("only that of these two", x.bear(2, 1, false), 1);
        due("grudge", x.grudge(0), 1);
        due("told anew by the other first", x.bear(2, 0, true), 2);
        due("grudge", x.grudge(1), 200);
        due("the first", x.bear(1, 0, false), 1);
        due("the last takes its number", x.grudge(0), 200);
        due("the only one", x.bear(0, 2, false), 0);
        due("grudge", x.grudge(0), UNKNOWN);
        DeputyQuarrels y = Check.town("person0;".repeat(16));
        int n = 0;
        for (int a = 0; a < 16; a++) for (int b = 0; b < a; b++) due("all may bear one", y.bear(a, b, true), ++n);
        due("grudge 119", y.grudge(119), 1514);
    }

    /** What a text with a FAULT told is not told already for the next one. */
    private static void grudgesOfAFaultyText() {
        DeputyQuarrels x = new DeputyQuarrels();
        for (int i = 0; i < 3; i++) {
            Check.tell(x, TWO + "owes1 0;grudge0 1;quarrel0 1;quarrel");
            due("town", x.town(), -11);
        }
        Check.tell(x, TWO + "owes1 0;grudge1 0;quarrel0 1;");
        due("town", x.town(), 2);
        due("grudge", x.person(0, 3), 2);
        Check.tell(x, TWO + "grudge0 1;grudge1 0;");
        due("town", x.town(), -14);
        Check.tell(x, TWO);
        due("town", x.town(), 2);
        due("no grudge", x.person(0, 3), 0);
        due("no grudge to be none any more", x.bear(0, 1, false), NOT);
    }
}
