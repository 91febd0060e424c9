/** Edges of promises 1 to 9, a test for each sentence that names one: houses, grains, lines. */
public final class HousesEdgesTest {
    private static final int UNKNOWN = Ash.UNKNOWN, OUTSIDE = Ash.OUTSIDE, FULL = Ash.FULL, NO = Ash.NO, NONE = Ash.NONE;
    private static final int LEAST = Ash.LEAST, MOST = Ash.MOST;
    private static final long GONE = Ash.GONE;
    private static final Check check = new Check();

    private static Ash ash(String test) {
        return new Ash(check, test);
    }

    public static void main(String[] args) {
        constants();
        newObject();
        newObjectAgain();
        lastCall();
        pieceBySlack();
        pieceAtTheRims();
        piecesThatMeet();
        pieceRefused();
        thirtyPieces();
        roundBySlack();
        roundAtTheRims();
        roundOfOneHouse();
        roundsInRings();
        slackAsItWasThen();
        leanRefused();
        slackEnds();
        sixtyGrains();
        grainRefused();
        trueEnds();
        trueRefused();
        grainsOfALine();
        glassOfALine();
        check.named(1, 9);
        check.end("HousesEdgesTest");
    }

    // ---- 1

    private static void constants() {
        check.due("the face: NONE", AshLines.NONE, -6);
        check.due("the face: UNKNOWN", AshLines.UNKNOWN, -1);
        check.due("the face: OUTSIDE", AshLines.OUTSIDE, -2);
        check.due("the face: STATE", AshLines.STATE, -3);
        check.due("the face: FULL", AshLines.FULL, -4);
        check.due("the face: NO", AshLines.NO, -5);
        check.due("the face: LOST", AshLines.LOST, -1000000000000000000L);
        check.due("the face: GONE", AshLines.GONE, -1000000);
    }

    private static void newObject() {
        Ash x = ash("1 a new object has nothing");
        for (int what = 0; what < 8; what++) x.is("told " + what, what == 3 ? 1 : 0);
        for (int i = 0; i < 9; i++) x.is("lean " + i / 3 + " " + i % 3 + " 0", -9).is("lean " + i / 3 + " " + i % 3 + " 1", 9);
        for (int line = 0; line < 144; line++) x.is("grains " + line, 0).is("net 1 " + line + " 1", 9999);
        for (int day = 0; day < 10; day++) x.is("net 0 " + day + " 0", 0).is("net 0 " + day + " 1", 9999);
        x.are(0, "fault", "untrue", "drop 0", "drop 1", "several", "wipe", "worth 63 0", "next 600 0", "next 600 1");
        x.is("worth 63 1", 1).is("broken", Ash.STATE).is("rule", NO).is("drop 10", NONE);
        for (int line : new int[] {0, 77, 143}) x.are(UNKNOWN, "hour " + line, "gain " + line, "washed " + line, "tie " + line + " 0");
        x = ash("1 a new object has nothing told");
        for (int i = 0; i < 12; i++) x.is("place " + i / 6 + " " + i % 6 + " 0 0", 0);
        for (int i = 0; i < 60; i++) x.is("shade " + i / 6 + " " + i / 3 % 2 + " " + i % 3 + " 0", 0);
        for (int i = 0; i < 66; i++) x.is("look " + i / 11 + " " + i % 11 + " 0", 0);
        for (int day = 0; day < 10; day++) x.is("born " + day + " -1", NONE).is("called " + day, 0).is("winds " + day + " 0", Ash.STATE);
        for (int m = 0; m < 6; m++) x.is("way " + m + " 0", UNKNOWN).is("born 0 " + m, UNKNOWN);
        for (int i = 0; i < 100; i++) x.is("above " + i / 10 + " " + i % 10, 0);
        x.is("grain 0 0 0 50 50 50", 0).is("tie 0 -1", NONE).is("sunk 0 false", 0).is("name 0 -1", NONE).is("slack 1", 1);
    }

    private static void newObjectAgain() {
        ash("1 one object that is told everything").tell("piece 0 0 50 50", "grain 0 0 0 50 50 50", "tie 0 0", "sunk 0 true", "name 0 3")
            .tell("slack 3", "mountain 2 1 2 3 4", "place 0 2 9 9", "place 1 2 9 9", "age 0 0 5 6", "born 0 2", "shade 0 0 0 9", "look 0 0 9")
            .rule("a<1").say("b");
        newObject();
    }

    private static void lastCall() {
        Ash x = ash("1 an object is used for 512 calls: the last one is answered as the first");
        for (int i = 0; i < 60; i++) x.is("grain " + i % 6 + " " + i / 6 + " 0 50 50 50", i);
        for (int i = 0; i < 60; i++) x.tell("tie " + (24 * (i % 6) + i / 6) + " " + i / 6);
        for (int i = 0; i < 30; i++) x.is("piece 0 0 50 50", i + 1);
        x.rule("a<1&y<9");
        while (x.asked().size() < Ash.CALLS - 6) x.is("first 1 0", 1);
        x.is("broken", 0).is("chain 120 59", 129).is("above 0 9", 1).is("drop 19", 9).is("grain 0 0 0 0 0 0", FULL).is("told 4", 60);
        check.due("512 calls were made", x.asked().size(), Ash.CALLS);
    }

    // ---- 2

    private static void pieceBySlack() {
        for (int slack = 0; slack <= 3; slack++) {
            ash("2 its LEAN is r less that, give or take SLACK " + slack).tell("slack " + slack).is("piece 1 2 50 52", 1)
                .is("lean 1 2 0", 2 - slack).is("lean 1 2 1", 2 + slack)
                .is("piece 2 0 52 50", 2).is("lean 2 0 0", -2 - slack).is("lean 2 0 1", -2 + slack)
                .are(-9, "lean 0 2 0", "lean 2 2 0", "lean 1 0 0", "lean 1 1 0").are(9, "lean 0 2 1", "lean 2 2 1", "lean 1 0 1", "lean 1 1 1");
        }
        ash("2 known and read are 0 to 99").is("piece 0 0 0 0", 1).is("piece 0 1 99 99", 2).is("piece 0 2 0 9", 3).is("piece 1 0 99 90", 4)
            .is("lean 0 0 1", 1).is("lean 0 1 0", -1).is("lean 0 2 0", 8).is("lean 1 0 1", -8);
    }

    private static void pieceAtTheRims() {
        for (int slack = 0; slack <= 3; slack++) {
            ash("2 NO: the last reading that leaves one number, above, SLACK " + slack).tell("slack " + slack)
                .is("piece 0 0 50 " + (59 + slack), 1).are(9, "lean 0 0 0", "lean 0 0 1");
            ash("2 NO: the first reading that leaves none, above, SLACK " + slack).tell("slack " + slack)
                .refuses("piece 0 0 50 " + (60 + slack), NO).is("told 1", 0).is("lean 0 0 0", -9).is("lean 0 0 1", 9);
            ash("2 NO: the last reading that leaves one number, below, SLACK " + slack).tell("slack " + slack)
                .is("piece 0 0 50 " + (41 - slack), 1).are(-9, "lean 0 0 0", "lean 0 0 1");
            ash("2 NO: the first reading that leaves none, below, SLACK " + slack).tell("slack " + slack)
                .refuses("piece 0 0 50 " + (40 - slack), NO).is("told 1", 0).is("lean 0 0 0", -9).is("lean 0 0 1", 9);
        }
        ash("2 NO: readings farthest off").refuses("piece 0 0 0 99", NO).refuses("piece 0 0 99 0", NO).is("told 1", 0);
    }

    private static void piecesThatMeet() {
        ash("2 two PIECES that have one number in common").tell("piece 0 0 50 51").is("piece 0 0 50 53", 2).are(2, "lean 0 0 0", "lean 0 0 1");
        ash("2 NO: two PIECES that have none").tell("piece 0 0 50 51").refuses("piece 0 0 50 54", NO).is("lean 0 0 0", 0).is("lean 0 0 1", 2);
        ash("2 two PIECES that have one number in common, below").tell("piece 0 0 50 51").is("piece 0 0 50 49", 2).are(0, "lean 0 0 0", "lean 0 0 1");
        ash("2 NO: two PIECES that have none, below").tell("piece 0 0 50 51").refuses("piece 0 0 50 48", NO).is("lean 0 0 0", 0).is("lean 0 0 1", 2);
        ash("2 a PIECE that takes nothing away counts all the same").tell("piece 0 0 50 51").tell("slack 3").is("piece 0 0 50 51", 2)
            .is("lean 0 0 0", 0).is("lean 0 0 1", 2);
        ash("2 NO: nothing would be left in another SPAN").tell("slack 0", "round 0 1 0 50 50", "round 1 2 0 50 50", "piece 2 0 50 53")
            .are(3, "lean 0 0 0", "lean 0 0 1", "lean 1 0 0", "lean 1 0 1").refuses("piece 0 0 50 52", NO).refuses("piece 0 0 50 54", NO)
            .is("piece 0 0 50 53", 4);
    }

    private static void pieceRefused() {
        ash("2 UNKNOWN ahead of OUTSIDE").refuses("piece 3 3 100 100", UNKNOWN).refuses("piece -1 0 -1 0", UNKNOWN)
            .refuses("piece " + LEAST + " 3 0 0", UNKNOWN).refuses("piece " + MOST + " 0 100 0", UNKNOWN);
        ash("2 OUTSIDE: STUFF").refuses("piece 0 3 50 50", OUTSIDE).refuses("piece 0 -1 50 50", OUTSIDE)
            .refuses("piece 0 " + LEAST + " 50 50", OUTSIDE).refuses("piece 0 " + MOST + " 50 50", OUTSIDE);
        ash("2 OUTSIDE: numbers").refuses("piece 0 0 100 99", OUTSIDE).refuses("piece 0 0 -1 0", OUTSIDE)
            .refuses("piece 0 0 99 100", OUTSIDE).refuses("piece 0 0 0 -1", OUTSIDE)
            .refuses("piece 0 0 " + MOST + " " + MOST, OUTSIDE).refuses("piece 0 0 " + LEAST + " " + LEAST, OUTSIDE);
        ash("2 OUTSIDE ahead of NO").refuses("piece 0 0 0 100", OUTSIDE).refuses("piece 0 0 100 0", OUTSIDE);
    }

    private static void thirtyPieces() {
        Ash x = ash("2 FULL: PIECES and ROUND pieces, 30 together");
        for (int i = 1; i <= 29; i++) x.is(i % 2 == 0 ? "round 0 1 0 50 50" : "piece 2 1 50 50", i);
        x.refuses("piece 2 1 50 99", NO).is("told 1", 29).is("piece 0 2 50 55", 30);
        x.refuses("piece 0 1 50 50", FULL).refuses("round 1 2 2 50 50", FULL).is("told 1", 30);
        x.refuses("piece 2 1 50 99", FULL).refuses("round 0 1 0 99 0", FULL);
        x.refuses("piece 2 3 50 50", OUTSIDE).refuses("piece 3 0 50 50", UNKNOWN);
        x.refuses("round 0 1 3 50 50", OUTSIDE).refuses("round 0 0 0 50 50", UNKNOWN).is("lean 0 2 0", 4);
        x = ash("3 FULL: the thirtieth may be a ROUND piece").tell(29, "piece 0 0 50 50").is("round 0 1 0 50 50", 30)
            .refuses("round 0 1 0 50 50", FULL).refuses("piece 0 0 50 50", FULL);
        x = ash("3 FULL: thirty ROUND pieces").tell("slack 3").tell(30, "round 0 1 0 50 50").refuses("round 1 0 1 50 50", FULL).is("told 1", 30);
    }

    // ---- 3

    private static void roundBySlack() {
        for (int slack = 0; slack <= 3; slack++) {
            ash("3 the LEAN of the first less that of the second, give or take twice SLACK " + slack)
                .tell("slack 0", "piece 1 0 50 50", "slack " + slack).is("round 0 1 0 52 50", 2)
                .is("lean 0 0 0", 2 - 2 * slack).is("lean 0 0 1", 2 + 2 * slack).are(0, "lean 1 0 0", "lean 1 0 1")
                .is("round 1 2 0 52 50", 3).is("lean 2 0 0", -2 - 2 * slack).is("lean 2 0 1", -2 + 2 * slack)
                .are(-9, "lean 0 1 0", "lean 1 1 0", "lean 2 2 0").are(9, "lean 0 1 1", "lean 1 1 1", "lean 2 2 1");
        }
    }

    private static void roundAtTheRims() {
        for (int slack = 0; slack <= 3; slack++) {
            int last = 18 + 2 * slack;
            ash("3 NO: the last difference that leaves one number, SLACK " + slack).tell("slack " + slack)
                .is("round 0 2 1 " + (50 + last) + " 50", 1).are(9, "lean 0 1 0", "lean 0 1 1").are(-9, "lean 2 1 0", "lean 2 1 1");
            ash("3 NO: the first difference that leaves none, SLACK " + slack).tell("slack " + slack)
                .refuses("round 0 2 1 " + (51 + last) + " 50", NO).is("told 1", 0).is("lean 0 1 0", -9).is("lean 2 1 1", 9);
            ash("3 NO: the last difference that leaves one number, below, SLACK " + slack).tell("slack " + slack)
                .is("round 0 2 1 50 " + (50 + last), 1).are(-9, "lean 0 1 0", "lean 0 1 1").are(9, "lean 2 1 0", "lean 2 1 1");
            ash("3 NO: the first difference that leaves none, below, SLACK " + slack).tell("slack " + slack)
                .refuses("round 0 2 1 50 " + (51 + last), NO).is("told 1", 0).is("lean 0 1 1", 9).is("lean 2 1 0", -9);
        }
        ash("3 read and by are 0 to 99").is("round 0 1 0 0 0", 1).is("round 0 1 1 99 99", 2).refuses("round 0 1 2 0 99", NO)
            .refuses("round 0 1 2 99 0", NO);
    }

    private static void roundOfOneHouse() {
        ash("3 UNKNOWN: also both are one").refuses("round 0 0 0 50 50", UNKNOWN).refuses("round 1 1 0 50 50", UNKNOWN)
            .refuses("round 2 2 0 50 50", UNKNOWN).refuses("round 2 2 3 100 -1", UNKNOWN).refuses("round 3 3 0 50 50", UNKNOWN);
        ash("3 UNKNOWN: either HOUSE").refuses("round 3 0 0 50 50", UNKNOWN).refuses("round 0 3 0 50 50", UNKNOWN)
            .refuses("round -1 0 0 50 50", UNKNOWN).refuses("round 0 -1 0 50 50", UNKNOWN)
            .refuses("round 0 " + MOST + " 3 50 50", UNKNOWN).refuses("round " + LEAST + " 0 0 100 50", UNKNOWN);
        ash("3 OUTSIDE").refuses("round 0 1 3 50 50", OUTSIDE).refuses("round 0 1 -1 50 50", OUTSIDE).refuses("round 0 1 0 100 99", OUTSIDE)
            .refuses("round 0 1 0 -1 0", OUTSIDE).refuses("round 0 1 0 99 100", OUTSIDE).refuses("round 0 1 0 0 -1", OUTSIDE)
            .refuses("round 0 1 0 100 0", OUTSIDE).refuses("round 0 1 0 " + LEAST + " " + MOST, OUTSIDE).is("told 1", 0);
        Ash all = ash("3 all pairs of HOUSES");
        int count = 0;
        for (int i = 0; i < 9; i++) if (i / 3 != i % 3) all.is("round " + i / 3 + " " + i % 3 + " 0 50 50", ++count);
    }

    private static void roundsInRings() {
        ash("3 again and again till nothing changes: a ring that is off by one has nothing left")
            .tell("slack 0", "round 0 1 0 51 50", "round 1 2 0 50 50")
            .refuses("round 2 0 0 50 50", NO).is("told 1", 2).is("lean 0 0 0", -8).is("lean 0 0 1", 9).is("lean 2 0 1", 8)
            .is("round 2 0 0 50 51", 3).is("lean 0 0 0", -8);
        ash("3 again and again: through two ROUND pieces, both ways").tell("slack 0", "round 1 2 0 50 50", "round 0 1 0 55 50")
            .is("lean 2 0 1", 4).is("lean 1 0 1", 4).is("lean 0 0 0", -4)
            .is("piece 2 0 50 53", 3).are(8, "lean 0 0 0", "lean 0 0 1").are(3, "lean 1 0 0", "lean 1 0 1");
        ash("3 again and again: the least alone, then the greatest alone")
            .tell("slack 0", "round 0 1 0 50 50", "round 1 2 0 50 50", "round 0 1 1 50 50", "slack 3", "piece 2 0 50 57")
            .are(4, "lean 2 0 0", "lean 1 0 0", "lean 0 0 0").are(9, "lean 2 0 1", "lean 1 0 1", "lean 0 0 1").tell("piece 2 0 50 52")
            .are(5, "lean 2 0 1", "lean 1 0 1", "lean 0 0 1").is("lean 0 0 0", 4).is("lean 0 1 0", -9);
        ash("3 again and again: ROUND pieces of another STUFF after those that still move")
            .tell("slack 0", "round 0 1 2 50 50", "round 1 2 2 50 50", "round 0 1 1 50 50", "round 2 1 0 50 50", "piece 2 2 50 53")
            .are(3, "lean 0 2 0", "lean 0 2 1", "lean 1 2 0", "lean 1 2 1").are(-9, "lean 0 1 0", "lean 2 0 0");
        ash("3 NO: against an earlier ROUND piece").tell("slack 0", "round 0 1 0 55 50").refuses("round 0 1 0 54 50", NO)
            .refuses("round 1 0 0 51 55", NO)
            .is("round 1 0 0 50 55", 2);
        ash("3 NO: a refused one is not kept for later").tell("slack 0", "piece 0 0 50 50", "piece 1 0 50 50").refuses("round 0 1 0 51 50", NO)
            .is("round 0 2 0 50 50", 3).are(0, "lean 2 0 0", "lean 2 0 1");
    }

    private static void slackAsItWasThen() {
        ash("3 SLACK as it is then: what was taken keeps its own").tell("slack 3", "piece 0 0 50 50", "round 0 1 0 50 50", "slack 0")
            .is("lean 0 0 0", -3).is("lean 0 0 1", 3).is("lean 1 0 0", -9).is("lean 1 0 1", 9)
            .is("piece 1 0 50 52", 3).is("lean 0 0 0", -3).is("lean 0 0 1", 3)
            .is("round 1 2 0 50 50", 4).are(2, "lean 2 0 0", "lean 2 0 1").tell("slack 3").are(2, "lean 2 0 0", "lean 2 0 1");
        ash("3 SLACK as it is then: a ROUND piece of SLACK 1 narrows by 2").tell("round 0 1 0 50 50", "slack 0", "piece 0 0 50 54", "slack 3")
            .is("lean 1 0 0", 2).is("lean 1 0 1", 6);
    }

    // ---- 4 and 5

    private static void leanRefused() {
        ash("4 UNKNOWN, OUTSIDE (GONE less 1, 2)").refuses("lean 3 0 0", GONE - 1).refuses("lean -1 0 0", GONE - 1)
            .refuses("lean " + LEAST + " 0 0", GONE - 1).refuses("lean " + MOST + " 3 2", GONE - 1).refuses("lean 0 3 0", GONE - 2)
            .refuses("lean 0 -1 0", GONE - 2).refuses("lean 0 0 2", GONE - 2).refuses("lean 0 0 -1", GONE - 2)
            .refuses("lean 0 " + LEAST + " " + MOST, GONE - 2).refuses("lean 3 3 2", -1000001).refuses("lean 0 3 2", -1000002);
        ash("4 an end may be as a refusal is").tell("slack 0", "piece 0 0 50 49", "piece 0 1 51 49", "piece 0 2 55 50")
            .is("lean 0 0 0", -1).is("lean 0 0 1", -1).is("lean 0 1 0", -2).is("lean 0 2 1", -5);
        ash("4 the last HOUSE, STUFF and end").tell("piece 2 2 50 58").is("lean 2 2 0", 7).is("lean 2 2 1", 9);
    }

    private static void slackEnds() {
        ash("5 SLACK 0 to 3; 1 at first; which it was").is("slack 0", 1).is("slack 3", 0).is("slack 3", 3).is("slack 2", 3).is("slack 1", 2)
            .is("told 3", 1);
        ash("5 OUTSIDE").refuses("slack -1", OUTSIDE).refuses("slack 4", OUTSIDE).refuses("slack " + LEAST, OUTSIDE).refuses("slack " + MOST, OUTSIDE)
            .is("told 3", 1).is("slack 0", 1).refuses("slack 4", OUTSIDE).is("told 3", 0);
        ash("5 SLACK leaves the LEANS as they are").tell("piece 0 0 50 50", "slack 3").is("lean 0 0 0", -1).tell("slack 0").is("lean 0 0 1", 1);
    }

    // ---- 6

    private static void sixtyGrains() {
        Ash x = ash("6 FULL: GRAINS, 60 at most, numbered from 0 on");
        for (int i = 0; i < 60; i++) x.is("grain " + i % 6 + " " + i % 24 + " " + i % 3 + " " + i + " 0 99", i);
        x.refuses("grain 0 0 0 50 50 50", FULL).refuses("grain 5 22 0 50 50 50", FULL).is("told 0", 60).is("grains 142", 0);
        x.refuses("grain 0 0 0 100 50 50", OUTSIDE).refuses("grain 0 0 3 50 50 50", UNKNOWN).refuses("grain 6 24 3 100 100 100", UNKNOWN);
        ash("6 sixty GRAINS in one INCH").tell(60, "grain 5 23 0 50 50 50").is("grains 143", 60).is("grains 142", 0)
            .refuses("grain 5 23 0 50 50 50", FULL).is("grains 143", 60);
        x = ash("6 sixty LINES");
        for (int i = 0; i < 60; i++) x.is("grain " + i / 24 + " " + i % 24 + " 0 50 50 50", i);
        for (int i = 0; i < 60; i++) x.is("grains " + i, 1);
        x.is("grains 60", 0);
    }

    private static void grainRefused() {
        ash("6 UNKNOWN: CORE, INCH, HOUSE").refuses("grain 6 0 0 50 50 50", UNKNOWN).refuses("grain -1 0 0 50 50 50", UNKNOWN)
            .refuses("grain 0 24 0 50 50 50", UNKNOWN).refuses("grain 0 -1 0 50 50 50", UNKNOWN).refuses("grain 1 -1 0 50 50 50", UNKNOWN)
            .refuses("grain 0 0 3 50 50 50", UNKNOWN).refuses("grain 0 0 -1 50 50 50", UNKNOWN)
            .refuses("grain " + LEAST + " 0 0 50 50 50", UNKNOWN).refuses("grain 0 " + MOST + " 0 50 50 50", UNKNOWN)
            .refuses("grain 0 0 " + LEAST + " 50 50 50", UNKNOWN).refuses("grain 178956971 0 0 50 50 50", UNKNOWN).is("told 0", 0);
        ash("6 UNKNOWN ahead of OUTSIDE").refuses("grain 6 0 0 100 50 50", UNKNOWN).refuses("grain 0 24 0 50 -1 50", UNKNOWN)
            .refuses("grain 0 0 3 50 50 100", UNKNOWN);
        for (int place = 3; place < 6; place++) {
            for (int v : new int[] {-1, 100, LEAST, MOST}) {
                int[] numbers = {0, 0, 0, 50, 50, 50};
                numbers[place] = v;
                StringBuilder call = new StringBuilder("grain");
                for (int number : numbers) call.append(' ').append(number);
                ash("6 OUTSIDE: a reading is 0 to 99").refuses(call.toString(), OUTSIDE).is("told 0", 0).is("grains 0", 0);
            }
        }
        ash("6 a reading is 0 to 99").is("grain 0 0 0 0 0 0", 0).is("grain 5 23 2 99 99 99", 1).is("grains 0", 1).is("grains 143", 1);
        ash("6 the first one after refusals has number 0").refuses("grain 6 0 0 0 0 0", UNKNOWN).refuses("grain 0 0 0 0 100 0", OUTSIDE)
            .is("grain 0 0 0 0 0 0", 0);
    }

    // ---- 7

    private static void trueEnds() {
        for (int slack = 0; slack <= 3; slack++) {
            ash("7 TRUE of the least and the greatest reading, SLACK " + slack).tell("grain 0 0 0 0 99 50", "slack " + slack)
                .is("truly 0 0 0", -9 - slack).is("truly 0 0 1", 9 + slack).is("truly 0 1 0", 90 - slack).is("truly 0 1 1", 108 + slack)
                .is("truly 0 2 0", 41 - slack).is("truly 0 2 1", 59 + slack);
        }
        ash("7 TRUE is one number, if the LEAN is and SLACK is 0").tell("slack 0", "piece 2 0 50 59", "piece 2 1 50 41", "grain 0 0 2 9 90 0")
            .are(0, "truly 0 0 0", "truly 0 0 1").are(99, "truly 0 1 0", "truly 0 1 1").is("truly 0 2 0", -9).is("truly 0 2 1", 9);
        ash("7 the least LEAN makes the greatest number").tell("slack 2", "piece 1 0 50 54", "slack 1", "grain 0 0 1 50 50 50")
            .is("truly 0 0 0", 43).is("truly 0 0 1", 49);
        ash("7 GRAINS before and after the PIECE alike").tell("grain 0 0 0 50 50 50", "slack 0", "piece 0 0 50 53", "grain 0 0 0 50 50 50")
            .are(47, "truly 0 0 0", "truly 0 0 1", "truly 1 0 0", "truly 1 0 1").are(41, "truly 0 1 0", "truly 1 1 0");
    }

    private static void trueRefused() {
        ash("7 UNKNOWN: no such GRAIN, none yet").refuses("truly 0 0 0", GONE - 1).refuses("truly -1 0 0", GONE - 1).refuses("truly 0 3 2", GONE - 1);
        ash("7 UNKNOWN: no such GRAIN, one").tell("grain 0 0 0 50 50 50").is("truly 0 0 0", 40).refuses("truly 1 0 0", GONE - 1)
            .refuses("truly -1 0 0", GONE - 1)
            .refuses("truly " + LEAST + " 0 0", GONE - 1).refuses("truly " + MOST + " 3 2", GONE - 1);
        ash("7 UNKNOWN: no such GRAIN, sixty").tell(60, "grain 0 0 0 50 50 50").is("truly 59 2 1", 60).refuses("truly 60 0 0", GONE - 1);
        ash("7 OUTSIDE (GONE less 2)").tell("grain 0 0 0 50 50 50").refuses("truly 0 3 0", GONE - 2).refuses("truly 0 -1 0", GONE - 2)
            .refuses("truly 0 0 2", GONE - 2).refuses("truly 0 0 -1", GONE - 2).refuses("truly 0 " + MOST + " " + LEAST, GONE - 2);
        ash("7 an end may be as a refusal is").tell("slack 0", "piece 0 0 50 51", "piece 0 1 50 52", "grain 0 0 0 0 0 0").is("truly 0 0 0", -1)
            .is("truly 0 1 1", -2);
    }

    // ---- 8 and 9

    private static void grainsOfALine() {
        ash("8 UNKNOWN: 0 to 143").is("grains 0", 0).is("grains 143", 0).refuses("grains -1", UNKNOWN).refuses("grains 144", UNKNOWN)
            .refuses("grains " + LEAST, UNKNOWN).refuses("grains " + MOST, UNKNOWN);
        ash("8 a LINE is 24 times the CORE, and the INCH")
            .tell("grain 0 23 0 50 50 50", "grain 1 0 0 50 50 50", "grain 1 0 0 50 50 50", "grain 5 0 0 50 50 50")
            .is("grains 22", 0).is("grains 23", 1).is("grains 24", 2).is("grains 25", 0).is("grains 120", 1).is("grains 5", 0);
    }

    private static void glassOfALine() {
        ash("9 UNKNOWN: also it has no GRAINS").refuses("glass 0 0 0", GONE - 1).refuses("glass 0 3 2", GONE - 1).tell("grain 0 0 0 50 50 50")
            .is("glass 0 0 0", 40).refuses("glass 1 0 0", GONE - 1).refuses("glass -1 0 0", GONE - 1).refuses("glass 144 0 0", GONE - 1)
            .refuses("glass " + LEAST + " 3 0", GONE - 1).refuses("glass " + MOST + " 0 2", GONE - 1);
        ash("9 OUTSIDE (GONE less 2)").tell("grain 5 23 0 50 50 50").is("glass 143 2 1", 60).refuses("glass 143 3 0", GONE - 2)
            .refuses("glass 143 -1 0", GONE - 2)
            .refuses("glass 143 0 2", GONE - 2).refuses("glass 143 0 -1", GONE - 2).refuses("glass 143 " + LEAST + " " + MOST, GONE - 2);
        ash("9 GLASS of one GRAIN is TRUE of it").tell("grain 0 0 0 0 99 50").is("glass 0 0 0", -10).is("glass 0 0 1", 10).is("glass 0 1 0", 89)
            .is("glass 0 1 1", 109).is("glass 0 2 0", 40).is("glass 0 2 1", 60);
        ash("9 from the least to the greatest number, whichever GRAIN has it").tell("slack 0", "piece 0 0 50 50", "piece 1 0 50 53")
            .tell("grain 0 0 0 50 0 0", "grain 0 0 1 50 0 0").is("glass 0 0 0", 47).is("glass 0 0 1", 50)
            .tell("grain 0 0 0 49 0 0").is("glass 0 0 0", 47).is("glass 0 0 1", 50).tell("grain 0 0 0 51 0 0").is("glass 0 0 1", 51)
            .tell("grain 0 1 0 99 0 0").is("glass 0 0 1", 51).is("glass 1 0 0", 99).tell("slack 3").is("glass 0 0 0", 44).is("glass 0 0 1", 54);
        ash("9 PIECES, ROUND pieces and SLACK that come after the GRAINS").tell("grain 0 0 0 50 50 50", "grain 5 23 1 50 50 50").is("glass 0 0 0", 40)
            .tell("slack 0").is("glass 0 0 0", 41)
            .tell("piece 0 0 50 53").are(47, "glass 0 0 0", "glass 0 0 1").is("glass 143 0 0", 41).tell("round 1 0 0 50 50")
            .are(47, "glass 143 0 0", "glass 143 0 1")
            .is("piece 0 0 50 52", NO).is("round 0 1 0 51 50", NO).are(47, "glass 0 0 0", "glass 143 0 1");
        ash("9 the last of sixty GRAINS counts").tell("slack 0", "piece 0 0 50 50").tell(59, "grain 2 2 0 50 50 50").tell("grain 2 2 0 99 50 50")
            .is("glass 50 0 0", 50).is("glass 50 0 1", 99);
        ash("9 an end may be as a refusal is").tell("slack 0", "piece 0 0 50 51", "grain 0 0 0 0 0 0").is("glass 0 0 0", -1).is("glass 0 0 1", -1);
    }
}
