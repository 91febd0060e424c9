/** Edges of promises 22 to 29, a test for each sentence that names one: days, ties, ages. */
public final class AgesEdgesTest {
    private static final int UNKNOWN = Ash.UNKNOWN, OUTSIDE = Ash.OUTSIDE, NO = Ash.NO, NONE = Ash.NONE;
    private static final int LEAST = Ash.LEAST, MOST = Ash.MOST;
    private static final int[] NO_DAYS = {-2, 10, LEAST, MOST};
    private static final Check check = new Check();

    /** An object with one grain in each of these lines. */
    private static Ash ash(String test, int... lines) {
        return new Ash(check, test).lines(lines);
    }

    private static int[] upTo(int count) {
        int[] all = new int[count];
        for (int i = 0; i < count; i++) all[i] = i;
        return all;
    }

    public static void main(String[] args) {
        agesTold();
        ageRefused();
        ties();
        tieRefused();
        sinking();
        sinkRefused();
        aboveInACore();
        aboveItself();
        aboveRefused();
        untrueRings();
        untrueNot();
        dropNothing();
        dropFewest();
        dropOnlyTen();
        dropOfMany();
        dropNumbered();
        dropRefused();
        netRims();
        netClash();
        netSunk();
        netAgainAndAgain();
        netRefused();
        gainEnds();
        gainOfItsCore();
        gainRefused();
        check.named(22, 29);
        check.end("AgesEdgesTest");
    }

    // ---- 22

    private static void agesTold() {
        ash("22 YEARS of a DAY: 0 to 9999").is("age 0 0 0 0", 1).is("net 0 0 1", 0).is("age 0 9 9999 9999", 1).is("net 0 9 0", 9999)
            .is("net 0 1 0", 0).is("net 0 8 1", 9999)
            .is("age 0 0 0 9999", 1).is("net 0 0 1", 9999).is("age 0 9 3 3", 1).is("net 0 9 0", 3).is("net 0 9 1", 3);
        ash("22 the AGE of an INCH: 0 to 9999").is("age 1 0 0 0", 1).is("net 1 0 1", 0).is("age 1 143 9999 9999", 1).is("net 1 143 0", 9999)
            .is("age 1 0 0 9999", 1)
            .is("net 1 0 1", 9999).is("age 1 143 7 7", 1).is("net 1 143 0", 7).is("net 1 143 1", 7);
        ash("22 the AGE of an INCH without GRAINS").is("age 1 77 5 6", 1).is("net 1 77 0", 5).is("net 1 77 1", 6).is("grains 77", 0);
        ash("22 told anew: what was told before is gone").tell("age 1 5 100 200", "age 1 5 50 300").is("net 1 5 0", 50).is("net 1 5 1", 300)
            .tell("age 0 5 100 200", "age 0 5 50 300").is("net 0 5 0", 50).is("net 0 5 1", 300);
        ash("22 a CLASH is told, and untold").is("age 1 0 9 9", 1).is("age 1 1 8 8", 1).is("told 7", 1).is("age 1 1 9 9", 1).is("told 7", 0);
    }

    private static void ageRefused() {
        Ash x = ash("22 OUTSIDE: what (ahead)");
        for (int what : new int[] {-1, 2, LEAST, MOST}) {
            x.refuses("age " + what + " 0 5 6", OUTSIDE).refuses("age " + what + " 144 5 6", OUTSIDE)
                .refuses("age " + what + " -1 6 5", OUTSIDE);
        }
        x = ash("22 UNKNOWN");
        for (int i : new int[] {-1, 10, 143, LEAST, MOST}) x.refuses("age 0 " + i + " 5 6", UNKNOWN).refuses("age 0 " + i + " 6 5", UNKNOWN);
        for (int i : new int[] {-1, 144, LEAST, MOST}) x.refuses("age 1 " + i + " 5 6", UNKNOWN).refuses("age 1 " + i + " -1 10000", UNKNOWN);
        for (int what = 0; what < 2; what++) {
            String call = "age " + what + " 3 ";
            x = ash("22 OUTSIDE: least above greatest, too, of " + what).tell(call + "50 60");
            x.refuses(call + "6 5", OUTSIDE).refuses(call + "1 0", OUTSIDE).refuses(call + "9999 9998", OUTSIDE).refuses(call + "9999 0", OUTSIDE)
                .refuses(call + MOST + " " + LEAST, OUTSIDE);
            x.refuses(call + "-1 5", OUTSIDE).refuses(call + "-1 -1", OUTSIDE).refuses(call + "5 10000", OUTSIDE)
                .refuses(call + "10000 10000", OUTSIDE);
            x.refuses(call + LEAST + " 5", OUTSIDE).refuses(call + "5 " + MOST, OUTSIDE).refuses(call + LEAST + " " + MOST, OUTSIDE)
                .refuses(call + "0 -1", OUTSIDE);
            x.is("net " + what + " 3 0", 50).is("net " + what + " 3 1", 60).is(call + "5 5", 1);
        }
    }

    // ---- 23

    private static void ties() {
        ash("23 which it was (NONE); -1: not", 0, 143).is("tie 0 0", NONE).is("tie 0 9", 0).is("tie 0 9", 9).is("tie 0 -1", 9).is("tie 0 -1", NONE)
            .is("tie 143 9", NONE).is("tie 143 0", 9);
        ash("23 TIED to one DAY", 0, 24).tell("tie 0 3", "tie 24 3").is("told 4", 2).tell("tie 0 4").is("told 4", 2).is("called 3", 0)
            .tell("age 0 3 5 5").is("net 1 0 1", 9999).is("net 1 24 1", 5)
            .tell("tie 24 -1").is("told 4", 1).is("net 1 24 1", 9999);
        Ash x = ash("23 sixty TIES", upTo(60));
        for (int i = 0; i < 60; i++) x.is("tie " + i + " " + i % 10, NONE).is("told 4", i + 1);
        x.is("tie 59 -1", 9).is("told 4", 59);
        ash("23 a TIE stays when the LINE gets more GRAINS", 5).tell("tie 5 7", "grain 0 5 1 9 9 9").is("tie 5 -1", 7);
    }

    private static void tieRefused() {
        Ash x = ash("23 UNKNOWN: no such LINE or DAY, also it has no GRAINS", 0, 143).tell("tie 0 5", "tie 143 6");
        for (int line : new int[] {-1, 1, 142, 144, LEAST, MOST}) {
            x.refuses("tie " + line + " 0", UNKNOWN).refuses("tie " + line + " -1", UNKNOWN)
                .refuses("tie " + line + " 10", UNKNOWN);
        }
        for (int day : NO_DAYS) x.refuses("tie 0 " + day, UNKNOWN);
        x.is("told 4", 2).is("tie 0 -1", 5).is("tie 143 -1", 6);
        ash("23 UNKNOWN: no LINES yet").refuses("tie 0 0", UNKNOWN).tell("grain 0 0 0 50 50 50").is("tie 0 0", NONE);
    }

    // ---- 24

    private static void sinking() {
        ash("24 whether it was (1, 0)", 0, 143).is("sunk 0 false", 0).is("sunk 0 true", 0).is("sunk 0 true", 1).is("sunk 0 false", 1)
            .is("sunk 0 false", 0)
            .is("sunk 143 true", 0).is("sunk 0 true", 0).is("sunk 143 false", 1);
        ash("24 a LINE that is not TIED may be SUNK", 5).tell("age 1 3 100 200").is("net 1 5 0", 100).is("sunk 5 true", 0).is("net 1 5 0", 0)
            .is("net 1 6 0", 100).is("sunk 5 false", 1).is("net 1 5 0", 100);
        ash("24 SUNK before it is TIED, and after", 0, 1).tell("sunk 0 true", "tie 0 0", "tie 1 0").is("untrue", 0).tell("sunk 0 false")
            .is("untrue", 1).tell("sunk 1 true").is("untrue", 0)
            .is("tie 1 -1", 0).is("sunk 1 true", 1);
    }

    private static void sinkRefused() {
        Ash x = ash("24 UNKNOWN, likewise", 0, 143).tell("sunk 143 true");
        for (int line : new int[] {-1, 1, 142, 144, LEAST, MOST}) {
            x.refuses("sunk " + line + " true", UNKNOWN)
                .refuses("sunk " + line + " false", UNKNOWN);
        }
        x.is("sunk 0 false", 0).is("sunk 143 true", 1);
        ash("24 UNKNOWN: no LINES yet").refuses("sunk 0 true", UNKNOWN).tell("grain 0 0 0 50 50 50").is("sunk 0 true", 0);
    }

    // ---- 25

    private static void aboveInACore() {
        ash("25 a lesser INCH: the next one", 0, 1).tell("tie 0 0", "tie 1 9").is("above 0 9", 1).is("above 9 0", 0).is("above 0 0", 0)
            .is("above 9 9", 0);
        ash("25 a lesser INCH: the first and the last of a CORE", 120, 143).tell("tie 120 9", "tie 143 0").is("above 9 0", 1).is("above 0 9", 0);
        ash("25 in some CORE: the last of one and the first of the next are not in one", 23, 24).tell("tie 23 0", "tie 24 1")
            .are(0, "above 0 1", "above 1 0");
        ash("25 not by steps", 0, 1, 24, 25).tell("tie 0 0", "tie 1 1", "tie 24 1", "tie 25 2").is("above 0 1", 1).is("above 1 2", 1)
            .is("above 0 2", 0);
        ash("25 past a LINE between", 0, 1, 2).tell("tie 0 0", "tie 1 1", "tie 2 2").are(1, "above 0 1", "above 1 2", "above 0 2");
        ash("25 both ways in unlike CORES", 0, 1, 24, 25).tell("tie 0 0", "tie 1 1", "tie 24 1", "tie 25 0").are(1, "above 0 1", "above 1 0")
            .are(0, "above 0 0", "above 1 1");
        ash("25 by LINES that are not SUNK", 0, 1, 2).tell("tie 0 0", "tie 1 1", "tie 2 2", "sunk 1 true").are(0, "above 0 1", "above 1 2")
            .is("above 0 2", 1)
            .tell("sunk 1 false", "sunk 0 true").is("above 0 1", 0).is("above 1 2", 1).tell("sunk 0 false", "tie 1 -1").is("above 0 1", 0)
            .is("above 0 2", 1);
    }

    private static void aboveItself() {
        ash("25 a DAY above itself: two LINES of one CORE", 0, 23).tell("tie 0 4", "tie 23 4").is("above 4 4", 1).tell("sunk 0 true")
            .is("above 4 4", 0).tell("sunk 0 false", "tie 23 5").is("above 4 4", 0);
        ash("25 a DAY not above itself: LINES of unlike CORES", 0, 47).tell("tie 0 4", "tie 47 4").is("above 4 4", 0);
    }

    private static void aboveRefused() {
        Ash x = ash("25 UNKNOWN", 0, 1).tell("tie 0 0", "tie 1 9");
        for (int day : new int[] {-1, 10, LEAST, MOST}) {
            x.refuses("above " + day + " 0", UNKNOWN).refuses("above 0 " + day, UNKNOWN)
                .refuses("above " + day + " " + day, UNKNOWN);
        }
        ash("25 no TIES yet").are(0, "above 0 0", "above 0 9", "above 9 0", "above 9 9");
    }

    // ---- 26

    private static void untrueRings() {
        ash("26 a ring of two DAYS", 0, 1, 24, 25).tell("tie 0 0", "tie 1 9", "tie 24 9").is("untrue", 0).tell("tie 25 0").is("untrue", 513);
        Ash x = ash("26 a ring of ten DAYS", 0, 1, 2, 3, 4, 5, 6, 7, 8, 9, 24, 25);
        for (int i = 0; i < 10; i++) x.tell("tie " + i + " " + i);
        x.is("untrue", 0).tell("tie 24 9").is("untrue", 0).tell("tie 25 0").is("untrue", 1023).tell("tie 25 4").is("untrue", 1023 - 15)
            .tell("tie 25 8").is("untrue", 512 + 256)
            .tell("tie 25 9").is("untrue", 512).tell("sunk 25 true").is("untrue", 0);
        x = ash("26 a ring by steps through five CORES", 0, 1, 24, 25, 48, 49, 72, 73, 96, 97);
        for (int i = 0; i < 5; i++) x.tell("tie " + 24 * i + " " + i, "tie " + (24 * i + 1) + " " + (i + 1) % 5);
        x.is("untrue", 31).tell("tie 97 5").is("untrue", 0);
        ash("26 also one that two LINES of one CORE have", 0, 23, 24).tell("tie 0 9", "tie 24 9").is("untrue", 0).tell("tie 23 9").is("untrue", 512);
    }

    private static void untrueNot() {
        ash("26 no TIES yet").is("untrue", 0);
        ash("26 DAYS that lead into a ring or out of it are not UNTRUE", 0, 1, 2, 24, 25, 26)
            .tell("tie 0 5", "tie 1 0", "tie 2 1", "tie 24 1", "tie 25 0", "tie 26 6").is("untrue", 3);
        ash("26 the last INCH of a CORE and the first of the next", 23, 24).tell("tie 23 3", "tie 24 3").is("untrue", 0);
        ash("26 TIES of SUNK LINES do not count", 0, 1).tell("tie 0 0", "tie 1 0").is("untrue", 1).tell("sunk 1 true").is("untrue", 0)
            .tell("sunk 1 false").is("untrue", 1).tell("tie 1 -1").is("untrue", 0);
    }

    // ---- 27

    private static void dropNothing() {
        Ash x = ash("27 no TIES yet").is("drop 0", 0).is("drop 1", 0);
        for (int what = 10; what < 20; what++) x.is("drop " + what, NONE);
        ash("27 nothing must go", 0, 1).tell("tie 0 0", "tie 1 1").is("drop 0", 0).is("drop 1", 0).is("drop 10", 0).is("drop 11", 1)
            .is("drop 12", NONE);
    }

    private static void dropFewest() {
        ash("27 the fewest TIES, of several sets the least as bits", 0, 1, 24, 25).tell("tie 0 0", "tie 1 1", "tie 24 1", "tie 25 0").is("drop 0", 1)
            .is("drop 1", 1);
        ash("27 one that mends, though others come ahead", 0, 1, 2, 24, 25).tell("tie 0 7", "tie 1 0", "tie 2 1", "tie 24 1", "tie 25 0")
            .is("drop 0", 2).is("drop 1", 1);
        ash("27 one of greater number ahead of two of lesser ones", 0, 1, 2, 24, 48).tell("tie 0 0", "tie 1 1", "tie 2 2", "tie 24 2", "tie 48 2")
            .is("drop 0", 0)
            .tell("grain 1 1 0 50 50 50", "grain 1 2 0 50 50 50", "tie 25 0", "tie 26 1").is("untrue", 7).is("drop 0", 4).is("drop 1", 1);
        Ash x = ash("27 two LINES of one DAY: the first of them", 5, 9).tell("tie 5 3", "tie 9 3").is("drop 0", 1).is("drop 1", 1).is("drop 10", 5);
        x = ash("27 nine of ten LINES of one DAY", upTo(12));
        for (int i = 0; i < 10; i++) x.tell("tie " + i + " 0");
        x.is("drop 0", 511).is("drop 1", 9).is("drop 19", 9);
        x.tell("tie 10 0").is("drop 0", 1023).is("drop 1", 10);
        x.tell("tie 11 0").refuses("drop 0", NO).refuses("drop 1", NO).is("drop 10", 0).is("drop 19", 9);
        x.tell("sunk 0 true").is("drop 0", 1023).is("drop 10", 1).is("drop 19", 10);
    }

    private static void dropOnlyTen() {
        Ash x = ash("27 the first 10 of them may go: the tenth does", 0, 1, 2, 3, 4, 5, 6, 7, 8, 23);
        for (int i = 0; i < 9; i++) x.tell("tie " + i + " " + i);
        x.tell("tie 23 8").is("drop 0", 256).tell("grain 1 0 0 50 50 50", "grain 1 1 0 50 50 50", "tie 23 9").is("drop 0", 0);
        x.tell("tie 24 9", "tie 25 9").refuses("drop 0", NO).refuses("drop 1", NO).is("drop 19", 23).is("untrue", 512);
        x.tell("tie 8 -1").is("drop 0", 512).is("drop 1", 1).is("drop 19", 24);
        x.tell("tie 24 8", "tie 25 7", "tie 8 8").is("untrue", 256 + 128).is("drop 0", 128).is("drop 1", 1);
        x = ash("27 NO: a ring of the eleventh and the twelfth alone", upTo(12));
        for (int i = 0; i < 10; i++) x.tell("tie " + i + " " + i % 9);
        x.tell("tie 9 -1", "tie 10 9", "tie 11 9").is("drop 0", 512).is("drop 19", 10).tell("tie 9 9").is("untrue", 512);
        x.refuses("drop 0", NO).tell("sunk 11 true").is("drop 0", 512);
    }

    private static void dropOfMany() {
        for (int count : new int[] {11, 31, 32, 33, 59, 60}) {
            int[] lines = new int[count];
            for (int i = 0; i < count; i++) lines[i] = 24 * (i / 10) + i % 10;
            Ash x = ash("27 the first 10 of many TIES may go, of " + count, lines);
            for (int i = 0; i < count; i++) x.tell("tie " + lines[i] + " " + i % 10);
            x.is("drop 0", 0).is("drop 1", 0).is("drop 19", 9).tell("tie 0 1", "tie 1 1").is("drop 0", 1).is("drop 1", 1);
            x.tell("tie 8 9").is("untrue", 512 + 2).is("drop 0", 257).is("drop 1", 2).tell("tie 0 0", "tie 8 8").is("drop 0", 0);
        }
        Ash x = ash("27 NO: a ring of later TIES of the next CORE", 0, 1, 2, 3, 4, 5, 6, 7, 8, 9, 24, 25);
        for (int i = 0; i < 10; i++) x.tell("tie " + i + " " + i);
        x.tell("tie 24 3", "tie 25 3").is("untrue", 8).refuses("drop 0", NO).is("drop 19", 9).tell("tie 25 4").is("drop 0", 0);
    }

    private static void dropNumbered() {
        ash("27 numbered by LINES, not as they were told", 143, 30, 2).tell("tie 143 0", "tie 30 1", "tie 2 2").is("drop 10", 2).is("drop 11", 30)
            .is("drop 12", 143).is("drop 13", NONE);
        ash("27 TIES of LINES that are not SUNK", 1, 2, 3, 4).tell("tie 1 0", "tie 2 0", "tie 3 5", "sunk 1 true").is("drop 10", 2).is("drop 11", 3)
            .is("drop 12", NONE).is("drop 0", 0)
            .tell("tie 4 0").is("drop 0", 1).tell("sunk 1 false").is("drop 10", 1).is("drop 0", 3).is("drop 1", 2);
    }

    private static void dropRefused() {
        Ash x = ash("27 OUTSIDE", 0, 1).tell("tie 0 0", "tie 1 0");
        for (int what : new int[] {-1, 2, 9, 20, 5, LEAST, MOST}) x.refuses("drop " + what, OUTSIDE);
        x = ash("27 OUTSIDE ahead of NO", upTo(12));
        for (int i = 0; i < 12; i++) x.tell("tie " + i + " 0");
        x.refuses("drop 2", OUTSIDE).refuses("drop 20", OUTSIDE).refuses("drop 0", NO).refuses("drop 1", NO);
    }

    // ---- 28

    private static void netRims() {
        ash("28 a greater INCH is no younger: from the first one to the last").tell("age 1 0 9999 9999")
            .are(9999, "net 1 0 0", "net 1 1 0", "net 1 23 0", "net 1 23 1").are(0, "net 1 24 0", "net 1 143 0");
        ash("28 a greater INCH is no younger: from the last one to the first").tell("age 1 143 0 0")
            .are(0, "net 1 143 1", "net 1 142 1", "net 1 120 1", "net 1 120 0").are(9999, "net 1 119 1", "net 1 0 1");
        ash("28 no less: the least goes down, the greatest up").tell("age 1 30 100 200").is("net 1 29 0", 0).is("net 1 29 1", 200)
            .is("net 1 30 0", 100).is("net 1 30 1", 200).is("net 1 31 0", 100).is("net 1 31 1", 9999);
        ash("28 a DAY's SPAN and an INCH's", 143).tell("tie 143 9", "age 0 9 5 700", "age 1 143 6 9999").is("net 0 9 0", 6).is("net 0 9 1", 700)
            .is("net 1 143 0", 6).is("net 1 143 1", 700).is("net 1 120 1", 700)
            .tell("tie 143 -1").is("net 0 9 0", 5).is("net 1 143 1", 9999);
    }

    private static void netClash() {
        ash("28 CLASH: by one year").tell("age 1 0 5 9999", "age 1 1 0 5").is("told 7", 0).is("net 1 0 0", 5).is("net 1 0 1", 5).is("net 1 1 0", 5)
            .tell("age 1 1 0 4").is("told 7", 1)
            .refuses("net 1 0 0", NO).refuses("net 1 143 1", NO).refuses("net 0 0 0", NO).tell("age 1 0 4 9999").is("told 7", 0).is("net 1 1 1", 4);
        ash("28 CLASH: the first INCH and the last").tell("age 1 120 6 6", "age 1 143 5 5").is("told 7", 1).refuses("net 1 0 0", NO);
        ash("28 CLASH: not of unlike CORES").tell("age 1 23 6 6", "age 1 24 5 5").is("told 7", 0).is("net 1 23 0", 6).is("net 1 24 1", 5);
        ash("28 CLASH: a LINE and its DAY", 7).tell("age 0 3 5 6", "age 1 7 7 8").is("told 7", 0).tell("tie 7 3").is("told 7", 1)
            .refuses("net 0 3 0", NO).tell("age 1 7 6 8").is("told 7", 0).is("net 0 3 0", 6).is("net 1 7 1", 6)
            .tell("age 1 7 0 4").is("told 7", 1).tell("sunk 7 true").is("told 7", 0).is("net 1 7 1", 4).is("net 0 3 0", 5)
            .tell("sunk 7 false", "tie 7 -1").is("told 7", 0);
        ash("28 CLASH: two LINES of a DAY in unlike CORES", 0, 143).tell("age 1 0 10 20", "age 1 143 21 30", "tie 0 0").is("told 7", 0)
            .tell("tie 143 0").is("told 7", 1).tell("age 1 143 20 30").is("told 7", 0).is("net 0 0 0", 20).is("net 0 0 1", 20);
    }

    private static void netSunk() {
        ash("28 SUNK LINES' INCHES keep what was told", 5).tell("age 1 5 50 60", "sunk 5 true", "age 1 4 100 200").is("told 7", 0).is("net 1 5 0", 50)
            .is("net 1 5 1", 60).is("net 1 6 0", 100).is("net 1 0 1", 200)
            .tell("sunk 5 false").is("told 7", 1);
        ash("28 no AGE by its DAY", 5).tell("age 0 0 50 60", "tie 5 0", "sunk 5 true").is("net 1 5 0", 0).is("net 1 5 1", 9999).tell("age 1 5 70 80")
            .is("net 0 0 1", 60).is("told 7", 0).is("net 1 6 0", 0);
        ash("28 the first and the last INCH SUNK", 0, 23).tell("sunk 0 true", "sunk 23 true", "age 1 0 9999 9999", "age 1 23 0 0").is("told 7", 0)
            .is("net 1 1 0", 0).is("net 1 22 1", 9999);
    }

    private static void netAgainAndAgain() {
        int[] lines = {5, 6, 29, 30, 53, 54, 77, 78, 101, 102, 125, 126};
        Ash x = ash("28 again and again: down through all CORES", lines);
        for (int i = 0; i < 12; i++) x.tell("tie " + lines[i] + " " + (i + 1) / 2);
        x.tell("age 1 0 100 9999").are(100, "net 0 0 0", "net 0 6 0", "net 1 126 0", "net 1 143 0", "net 1 53 0")
            .are(0, "net 1 24 0", "net 0 7 0", "net 1 124 0");
        x.tell("age 1 143 0 200").are(200, "net 1 0 1", "net 0 0 1", "net 0 6 1", "net 1 30 1").is("net 1 7 1", 9999).tell("age 1 143 0 100")
            .are(100, "net 1 0 1", "net 1 143 0").tell("age 1 143 0 99").is("told 7", 1);
        x = ash("28 again and again: up through all CORES", lines);
        for (int i = 0; i < 12; i++) x.tell("tie " + lines[i] + " " + (5 - i / 2 + i % 2));
        x.tell("age 1 120 100 9999").are(100, "net 0 0 0", "net 0 6 0", "net 1 6 0", "net 1 23 0").is("net 1 4 0", 0).tell("age 1 23 0 200")
            .are(200, "net 1 120 1", "net 0 0 1").tell("age 1 23 0 99").is("told 7", 1);
    }

    private static void netRefused() {
        Ash x = ash("28 OUTSIDE: what (ahead)");
        for (int what : new int[] {-1, 2, LEAST, MOST}) x.refuses("net " + what + " 0 0", OUTSIDE).refuses("net " + what + " 144 2", OUTSIDE);
        x = ash("28 UNKNOWN");
        for (int i : new int[] {-1, 10, 143, LEAST, MOST}) x.refuses("net 0 " + i + " 0", UNKNOWN).refuses("net 0 " + i + " 2", UNKNOWN);
        for (int i : new int[] {-1, 144, LEAST, MOST}) x.refuses("net 1 " + i + " 0", UNKNOWN).refuses("net 1 " + i + " -1", UNKNOWN);
        x = ash("28 OUTSIDE");
        for (int end : new int[] {-1, 2, LEAST, MOST}) x.refuses("net 0 9 " + end, OUTSIDE).refuses("net 1 143 " + end, OUTSIDE);
        x = ash("28 NO: CLASH, after all others").tell("age 1 0 5 5", "age 1 1 4 4").refuses("net 1 0 0", NO).refuses("net 0 0 1", NO);
        x.refuses("net 2 0 0", OUTSIDE).refuses("net 0 10 0", UNKNOWN).refuses("net 1 144 0", UNKNOWN).refuses("net 1 0 2", OUTSIDE);
    }

    // ---- 29

    private static void gainEnds() {
        ash("29 nothing gained", 0, 143).tell("tie 0 0", "tie 143 0").are(0, "gain 0", "gain 143");
        ash("29 the most that can be gained: all the oldest", 0).tell("tie 0 0", "age 0 0 9999 9999").is("gain 0", 24 * 9999);
        ash("29 the most that can be gained: all the youngest", 143).tell("tie 143 9", "age 0 9 0 0").is("gain 143", 24 * 9999);
        ash("29 one year of one INCH", 23).tell("tie 23 0", "age 0 0 1 9999").is("gain 23", 1);
        ash("29 one year of all", 0).tell("tie 0 0", "age 0 0 1 9999").is("gain 0", 24).tell("age 0 0 0 9998").is("gain 0", 1);
        ash("29 what is told already is not gained", 0).tell("tie 0 0", "age 0 0 5 5", "age 1 0 5 5").is("gain 0", 0);
    }

    private static void gainOfItsCore() {
        ash("29 its CORE's INCHES alone", 0, 24).tell("tie 0 0", "tie 24 0", "age 1 24 500 600").is("gain 0", 9899 + 23 * 500).is("gain 24", 0);
        ash("29 not the first INCH of the next CORE", 0, 24).tell("tie 0 0", "tie 24 0", "age 1 0 500 600").is("net 1 24 1", 600).is("gain 0", 0)
            .is("gain 24", 9899 + 23 * 500);
        ash("29 not the DAY", 120, 143).tell("tie 120 0", "age 1 120 500 600").is("net 0 0 1", 600).is("gain 120", 0);
        ash("29 all 24 INCHES: the last one, too", 142).tell("tie 142 0", "age 0 0 500 9999").is("gain 142", 1000).tell("age 0 0 0 500")
            .is("gain 142", 23 * 9499);
        ash("29 without it the others still hold", 0, 1).tell("tie 0 0", "tie 1 1", "age 0 0 500 9999", "age 0 1 500 9999").is("gain 0", 500)
            .is("gain 1", 0);
        ash("29 a SUNK INCH of the CORE gains nothing", 0, 5).tell("tie 0 0", "age 0 0 9999 9999", "sunk 5 true").is("gain 0", 23 * 9999);
    }

    private static void gainRefused() {
        Ash x = ash("29 UNKNOWN: also it is not TIED, or SUNK", 0, 5, 143).tell("tie 0 0", "tie 143 0", "sunk 143 true");
        for (int line : new int[] {-1, 1, 5, 143, 144, LEAST, MOST}) x.refuses("gain " + line, UNKNOWN);
        x.is("gain 0", 0).tell("sunk 143 false").is("gain 143", 0).tell("tie 143 -1").refuses("gain 143", UNKNOWN);
        x = ash("29 NO: CLASH, by this TIE alone", 0, 5).tell("tie 0 0", "age 0 0 9 9", "tie 5 5").is("gain 0", 24 * 9 + 9990).tell("age 1 0 8 8")
            .refuses("gain 0", NO).refuses("gain 5", NO).refuses("gain 1", UNKNOWN);
        x = ash("29 NO: CLASH, also without it", 0).tell("tie 0 0", "age 1 60 5 5", "age 1 61 4 4").refuses("gain 0", NO).refuses("gain 60", UNKNOWN);
        ash("29 UNKNOWN: no LINES yet").refuses("gain 0", UNKNOWN);
    }
}
