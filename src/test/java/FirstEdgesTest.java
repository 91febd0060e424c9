/** Edges of promises 38 to 43, a test for each sentence that names one: what was first, where to look. */
public final class FirstEdgesTest {
    private static final int UNKNOWN = Ash.UNKNOWN, OUTSIDE = Ash.OUTSIDE, NO = Ash.NO;
    private static final int LEAST = Ash.LEAST, MOST = Ash.MOST;
    private static final long LOST = Ash.LOST;
    private static final Check check = new Check();

    /** An object that reads what is true by house 0, with one grain of 50, 50, 50 in each of these lines. */
    private static Ash ash(String test, int... lines) {
        return new Ash(check, test).sharp().lines(lines);
    }

    public static void main(String[] args) {
        firstInACore();
        firstByTies();
        firstByAges();
        firstSunk();
        firstRefused();
        washedEdges();
        washedByGlass();
        washedRefused();
        looks();
        lookRefused();
        worthEnds();
        worthLowestTerms();
        worthRefused();
        nextByPurse();
        nextOfSeveral();
        nextRefused();
        toldEnds();
        toldRefused();
        check.named(38, 43);
        check.end("FirstEdgesTest");
    }

    // ---- 38

    private static void firstInACore() {
        ash("38 an INCH is older than the lesser ones of its CORE").is("first 1 0", 1).is("first 0 1", 2).is("first 23 0", 1).is("first 0 23", 2)
            .is("first 143 120", 1).is("first 120 143", 2).is("first 143 142", 1);
        ash("38 0: neither, of unlike COREs").are(0, "first 23 24", "first 24 23", "first 0 143", "first 143 0", "first 0 24");
    }

    private static void firstByTies() {
        ash("38 TIES alone make neither older", 5, 30).tell("tie 5 0", "tie 30 0").are(0, "first 5 30", "first 30 5");
        ash("38 steps in a CORE, then a TIE", 5, 30).tell("tie 5 0", "tie 30 0").is("first 6 30", 1).is("first 30 6", 2).is("first 23 30", 1)
            .is("first 4 30", 2).is("first 6 31", 0);
        ash("38 a TIE, then steps", 5, 30).tell("tie 5 0", "tie 30 0").is("first 5 29", 1).is("first 29 5", 2).is("first 5 24", 1).is("first 5 31", 2)
            .is("first 5 47", 2);
        ash("38 by TIES of the first INCH of a CORE, the LINE and the other way", 5, 24).tell("tie 5 0", "tie 24 0").is("first 24 4", 1)
            .is("first 24 0", 1).is("first 6 24", 1).is("first 24 6", 2).is("first 24 5", 0);
        ash("38 by TIES of the first LINE of all and the last", 0, 143).tell("tie 0 0", "tie 143 0").is("first 0 142", 1).is("first 142 0", 2)
            .is("first 1 143", 1).is("first 1 120", 1).is("first 0 143", 0).is("first 143 1", 2);
        ash("38 through a TIE of the first LINE of all", 0, 30, 48).tell("tie 0 0", "tie 30 0", "tie 48 0").is("first 31 48", 1).is("first 31 0", 1)
            .is("first 49 29", 1).is("first 1 29", 1).is("first 1 0", 1);
        ash("38 steps, a TIE, steps", 5, 30).tell("tie 5 0", "tie 30 0").is("first 6 29", 1).is("first 23 24", 1).is("first 24 23", 2)
            .is("first 6 31", 0).is("first 4 29", 0);
        int[] lines = {5, 6, 29, 30, 53, 54, 77, 78, 101, 102, 125, 126};
        Ash x = ash("38 some number of steps: through all CORES", lines);
        for (int i = 0; i < 12; i++) x.tell("tie " + lines[i] + " " + (i + 1) / 2);
        x.is("first 143 0", 1).is("first 0 143", 2).is("first 126 5", 1).is("first 125 6", 1).is("first 125 5", 1).is("first 5 125", 2)
            .is("first 124 6", 0).is("first 30 53", 0);
        x = ash("38 some number of steps: the other way round", lines);
        for (int i = 0; i < 12; i++) x.tell("tie " + lines[i] + " " + (5 - i / 2 + i % 2));
        x.is("first 23 120", 1).is("first 120 23", 2).is("first 6 125", 1).is("first 4 126", 0);
    }

    private static void firstByAges() {
        ash("38 all of its AGES in THE NET are greater").tell("age 1 0 500 600", "age 1 24 0 499").is("first 0 24", 1).is("first 24 0", 2)
            .tell("age 1 24 0 500").are(0, "first 0 24", "first 24 0")
            .tell("age 1 24 601 700").is("first 0 24", 2).is("first 24 0", 1).tell("age 1 24 600 700").is("first 0 24", 0);
        ash("38 by AGES of THE NET, not as told").tell("age 1 0 500 600", "age 1 47 0 499").is("first 23 24", 1).is("first 24 23", 2);
        ash("38 AGES alike in a CORE: the lesser INCH is younger all the same").tell("age 1 0 5 5", "age 1 23 5 5").is("first 9 8", 1)
            .is("first 8 9", 2);
        ash("38 the least and the greatest AGE").tell("age 1 0 9999 9999", "age 1 143 0 0").is("first 0 143", 1).is("first 143 0", 2)
            .is("first 23 120", 1);
    }

    private static void firstSunk() {
        ash("38 a SUNK LINE's INCH has no part in any order", 5, 30).tell("tie 5 0", "tie 30 0", "sunk 5 true")
            .are(0, "first 5 4", "first 4 5", "first 6 5", "first 6 30", "first 5 29").is("first 6 4", 1)
            .tell("sunk 5 false").is("first 5 4", 1).is("first 6 30", 1);
        ash("38 a SUNK LINE by what was told", 5).tell("sunk 5 true", "age 1 5 10 20", "age 1 4 0 9").is("first 5 4", 1).is("first 4 5", 2)
            .tell("age 1 4 0 10").is("first 5 4", 0).tell("age 1 6 0 9", "age 1 4 0 9").is("first 5 6", 1);
    }

    private static void firstRefused() {
        Ash x = ash("38 UNKNOWN: also both are one", 0, 143);
        for (int inch : new int[] {0, 5, 143}) x.refuses("first " + inch + " " + inch, UNKNOWN);
        for (int inch : new int[] {-1, 144, LEAST, MOST}) {
            x.refuses("first " + inch + " 0", UNKNOWN).refuses("first 0 " + inch, UNKNOWN)
                .refuses("first " + inch + " " + inch, UNKNOWN);
        }
        x = ash("38 NO: CLASH").tell("age 1 60 5 5", "age 1 61 4 4").refuses("first 1 0", NO).refuses("first 60 61", NO).refuses("first 0 143", NO)
            .refuses("first 0 0", UNKNOWN).refuses("first 144 0", UNKNOWN)
            .tell("age 1 61 5 5").is("first 1 0", 1);
        x = ash("38 NO: some DAY is UNTRUE", 120, 143).tell("tie 120 9", "tie 143 9").refuses("first 1 0", NO).refuses("first 0 30", NO)
            .refuses("first 5 5", UNKNOWN).refuses("first 0 144", UNKNOWN).is("told 7", 0)
            .tell("sunk 120 true").is("first 1 0", 1).tell("sunk 120 false").refuses("first 1 0", NO).tell("tie 120 8").is("first 1 0", 1);
        ash("38 NO: both", 0, 1).tell("tie 0 0", "tie 1 0", "age 1 60 5 5", "age 1 61 4 4").refuses("first 1 0", NO).tell("tie 0 -1")
            .refuses("first 1 0", NO).tell("age 1 61 5 5").is("first 1 0", 1);
    }

    // ---- 39

    private static void washedEdges() {
        ash("39 a LINE alone", 0).is("washed 0", 0);
        ash("39 fewer GRAINS: as many are not fewer", 0, 23).is("washed 0", 0).tell("grain 0 23 0 50 50 50").is("washed 0", 1)
            .tell("grain 0 0 0 50 50 50").is("washed 0", 0).is("washed 23", 0);
        ash("39 a greater INCH: not a lesser one", 22, 23).tell("grain 0 22 0 50 50 50").is("washed 23", 0).is("washed 22", 0);
        ash("39 of its CORE: not of the next one", 23, 24).tell("grain 1 0 0 50 50 50").is("washed 23", 0);
        ash("39 the first and the last INCH of the last CORE", 120, 143).tell("grain 5 23 0 50 50 50").is("washed 120", 1).is("washed 143", 0);
        ash("39 any of several LINES will do", 0, 1, 2).is("washed 0", 0).tell("grain 0 1 0 50 50 50", "grain 0 2 0 50 50 50").is("washed 0", 1)
            .is("washed 1", 0);
        ash("39 the one that has more must hold it, not another", 0, 1, 2).tell("grain 0 0 0 50 50 50", "grain 0 1 0 40 50 50").is("washed 0", 0)
            .tell("grain 0 2 0 40 50 50", "grain 0 2 0 60 50 50").is("washed 0", 1);
        ash("39 one GRAIN against fifty-nine", 0).tell(59, "grain 0 1 0 50 50 50").is("washed 0", 1).is("washed 1", 0);
        ash("39 SUNK or not", 0, 1).tell("grain 0 1 0 50 50 50", "sunk 1 true").is("washed 0", 1).tell("sunk 0 true").is("washed 0", 1);
    }

    private static void washedByGlass() {
        String[] less = {"49 50 50", "50 49 50", "50 50 49"};
        String[] more = {"51 50 50", "50 51 50", "50 50 51"};
        for (int stuff = 0; stuff < 3; stuff++) {
            Ash x = ash("39 each STUFF's SPAN lies in that one's: one beyond either end, STUFF " + stuff).tell(2, "grain 0 9 0 50 50 50");
            x.tell("grain 0 4 0 50 50 50", "grain 0 5 0 " + less[stuff], "grain 0 6 0 " + more[stuff]);
            x.is("washed 4", 1).are(0, "washed 5", "washed 6");
            x.tell("grain 0 9 0 " + less[stuff]).is("washed 5", 1).is("washed 6", 0);
            x.tell("grain 0 9 0 " + more[stuff]).are(1, "washed 4", "washed 5", "washed 6");
        }
        ash("39 by what is true, not by what is read").tell("slack 3", "grain 0 0 0 50 50 50", "grain 0 1 1 50 50 50", "grain 0 1 1 50 50 50")
            .is("washed 0", 1)
            .tell("grain 1 0 1 50 50 50", "grain 1 1 0 50 50 50", "grain 1 1 0 50 50 50").is("washed 24", 0);
    }

    private static void washedRefused() {
        Ash x = ash("39 UNKNOWN: also it has no GRAINS", 0, 143).are(0, "washed 0", "washed 143");
        for (int line : new int[] {-1, 1, 142, 144, LEAST, MOST}) x.refuses("washed " + line, UNKNOWN);
        ash("39 UNKNOWN: no LINES yet").refuses("washed 0", UNKNOWN);
    }

    // ---- 40

    private static void looks() {
        Ash x = ash("40 FINDS 0 to 10, COST 0 to 99; 0 at first; which it was");
        for (int i = 0; i < 66; i++) x.is("look " + i / 11 + " " + i % 11 + " " + (i % 11 == 10 ? 99 - i : i % 9 + 2), 0);
        for (int i = 0; i < 66; i++) x.is("look " + i / 11 + " " + i % 11 + " 0", i % 11 == 10 ? 99 - i : i % 9 + 2);
        x.is("look 5 9 10", 0).is("look 5 9 10", 10).is("look 5 9 0", 10).is("look 5 10 99", 0).is("look 5 10 99", 99).is("look 5 10 0", 99);
    }

    private static void lookRefused() {
        Ash x = ash("40 UNKNOWN ahead of OUTSIDE").tell("look 0 0 7", "look 5 10 8");
        for (int core : new int[] {-1, 6, LEAST, MOST}) x.refuses("look " + core + " 0 5", UNKNOWN).refuses("look " + core + " 11 100", UNKNOWN);
        x = ash("40 OUTSIDE: what").tell("look 0 0 7", "look 5 10 8");
        for (int what : new int[] {-1, 11, LEAST, MOST}) x.refuses("look 0 " + what + " 5", OUTSIDE).refuses("look 5 " + what + " 0", OUTSIDE);
        x = ash("40 OUTSIDE: FINDS").tell("look 0 0 7", "look 5 9 8");
        for (int v : new int[] {-1, 11, 99, LEAST, MOST}) x.refuses("look 0 0 " + v, OUTSIDE).refuses("look 5 9 " + v, OUTSIDE);
        x.is("look 0 0 0", 7).is("look 5 9 0", 8);
        x = ash("40 OUTSIDE: COST").tell("look 0 10 7", "look 5 10 98");
        for (int v : new int[] {-1, 100, LEAST, MOST}) x.refuses("look 0 10 " + v, OUTSIDE).refuses("look 5 10 " + v, OUTSIDE);
        x.is("look 0 10 0", 7).is("look 5 10 11", 98);
    }

    // ---- 41

    private static void worthEnds() {
        Ash x = ash("41 none: 0 by 1").are(0, "worth 0 0", "worth 63 0").are(1, "worth 0 1", "worth 63 1").tell("look 0 0 10").is("worth 0 0", 0)
            .is("worth 0 1", 1).is("worth 62 0", 0).is("worth 1 0", 1).is("worth 1 1", 1);
        for (int i = 0; i < 60; i++) x.tell("look " + i / 10 + " " + i % 10 + " 10");
        x.is("worth 63 0", 10).is("worth 63 1", 1).is("worth 32 0", 10).is("worth 0 0", 0);
        x = ash("41 how many DAYS are found in some of them: a DAY counts once").tell("look 0 3 10", "look 1 3 10").is("worth 3 0", 1)
            .is("worth 3 1", 1).tell("look 1 4 10").is("worth 3 0", 2).is("worth 1 0", 1).is("worth 2 0", 2);
        ash("41 bits of CORES").tell("look 5 9 3", "look 0 0 7").is("worth 32 0", 3).is("worth 32 1", 10).is("worth 1 0", 7).is("worth 33 0", 1)
            .is("worth 33 1", 1).is("worth 30 0", 0);
    }

    private static void worthLowestTerms() {
        Ash x = ash("41 in lowest terms").tell("look 0 0 5").is("worth 1 0", 1).is("worth 1 1", 2).tell("look 0 1 1").is("worth 1 0", 3)
            .is("worth 1 1", 5).tell("look 0 2 4").is("worth 1 0", 1).is("worth 1 1", 1);
        x = ash("41 six CORES of one tenth each: nothing to shorten");
        for (int core = 0; core < 6; core++) x.tell("look " + core + " 0 1");
        x.is("worth 63 0", 468559).is("worth 63 1", 1000000).is("worth 1 1", 10).is("worth 3 0", 19).is("worth 3 1", 100);
        for (int i = 0; i < 60; i++) x.tell("look " + i / 10 + " " + i % 10 + " " + (i % 10 == 9 ? 0 : 1));
        x.is("worth 63 0", 9 * 468559L).is("worth 63 1", 1000000);
        for (int core = 0; core < 6; core++) x.tell("look " + core + " 9 1");
        x.is("worth 63 0", 468559).is("worth 63 1", 100000);
        for (int i = 0; i < 60; i++) x.tell("look " + i / 10 + " " + i % 10 + " 9");
        x.is("worth 63 0", 999999).is("worth 63 1", 100000);
    }

    private static void worthRefused() {
        Ash x = ash("41 OUTSIDE (LOST less 2)").tell("look 0 0 5", "look 5 0 5");
        for (int cores : new int[] {-1, 64, LEAST, MOST}) x.refuses("worth " + cores + " 0", LOST - 2).refuses("worth " + cores + " 2", LOST - 2);
        for (int part : new int[] {-1, 2, LEAST, MOST}) x.refuses("worth 0 " + part, LOST - 2).refuses("worth 63 " + part, LOST - 2);
        x.is("worth 63 0", 3).is("worth 63 1", 4);
    }

    // ---- 42

    private static void nextByPurse() {
        ash("42 nothing to find").are(0, "next 0 0", "next 0 1", "next 600 0", "next 600 1");
        Ash x = ash("42 COSTS together are no more than the PURSE").tell("look 0 0 5", "look 1 1 4", "look 0 10 20", "look 1 10 30").is("next 0 0", 0)
            .is("next 19 0", 0).is("next 19 1", 0).is("next 20 0", 1).is("next 20 1", 20)
            .is("next 29 0", 1).is("next 30 0", 1).is("next 49 0", 1).is("next 50 0", 3).is("next 50 1", 50).is("next 600 0", 3);
        x = ash("42 CORES that COST nothing").tell("look 5 9 1").is("next 0 0", 32).is("next 0 1", 0).tell("look 4 9 1").is("next 0 0", 48);
        for (int core = 0; core < 6; core++) x.tell("look " + core + " " + core + " 1", "look " + core + " 10 99");
        x.is("next 98 0", 0).is("next 99 0", 16).is("next 197 1", 99).is("next 198 0", 48).is("next 494 1", 396).is("next 495 1", 495)
            .is("next 593 1", 495).is("next 594 0", 63).is("next 594 1", 594).is("next 600 1", 594);
    }

    private static void nextOfSeveral() {
        ash("42 of the most WORTH").tell("look 0 0 5", "look 1 0 6", "look 0 10 1", "look 1 10 9").is("next 9 0", 2).is("next 8 0", 1)
            .is("next 10 0", 3);
        ash("42 of several the least COST").tell("look 0 0 10", "look 1 0 10", "look 0 10 9", "look 1 10 8").is("next 600 0", 2).is("next 600 1", 8)
            .tell("look 1 10 9").is("next 600 0", 1).tell("look 1 10 10").is("next 600 0", 1);
        ash("42 then the least as bits").tell("look 4 0 10", "look 5 0 10").is("next 600 0", 16).tell("look 0 1 0").is("next 600 0", 16)
            .tell("look 4 10 1", "look 5 10 1").is("next 600 0", 16).tell("look 3 0 10", "look 3 10 1").is("next 600 0", 8);
        ash("42 one CORE that COSTS less ahead of two of as much WORTH")
            .tell("look 0 0 10", "look 1 1 10", "look 2 0 10", "look 2 1 10", "look 0 10 5", "look 1 10 5", "look 2 10 10").is("next 10 0", 3)
            .tell("look 2 10 9").is("next 10 0", 4)
            .tell("look 2 10 11").is("next 600 0", 3).is("next 9 0", 1);
        ash("42 a CORE that finds nothing more is not looked at, though it COSTS nothing").tell("look 3 0 10", "look 4 0 5").is("next 600 0", 8);
    }

    private static void nextRefused() {
        Ash x = ash("42 OUTSIDE").tell("look 0 0 5", "look 0 10 99");
        for (int purse : new int[] {-1, 601, LEAST, MOST}) x.refuses("next " + purse + " 0", OUTSIDE).refuses("next " + purse + " 2", OUTSIDE);
        for (int what : new int[] {-1, 2, LEAST, MOST}) x.refuses("next 0 " + what, OUTSIDE).refuses("next 600 " + what, OUTSIDE);
        x.is("next 0 1", 0).is("next 600 1", 99);
    }

    // ---- 43

    private static void toldEnds() {
        Ash x = ash("43 the most of each").tell(60, "grain 5 23 0 50 50 50").tell(27, "piece 0 0 50 50").tell(50, "say 97").tell("slack 3");
        for (int m = 0; m < 6; m++) x.tell("mountain " + m + " 50 50 50 0");
        x.tell("tie 143 0").is("told 0", 60).is("told 1", 30).is("told 2", 50).is("told 3", 3).is("told 4", 1).is("told 5", 63).is("told 6", 0)
            .is("told 7", 0);
        x.tell("wipe").say("a<1|a<1|a<1|a<1|a<1|a<1|a<1|a<1|a<1|a<1|a<1|a<1").tell("rule").is("told 6", 12).is("told 2", 0)
            .tell("age 0 0 5 5", "age 1 143 6 6").is("told 7", 1);
        x.tell("sunk 143 true").is("told 7", 0).is("told 4", 1).tell("tie 143 -1").is("told 4", 0);
    }

    private static void toldRefused() {
        Ash x = ash("43 OUTSIDE").is("told 0", 0).is("told 7", 0);
        for (int what : new int[] {-1, 8, LEAST, MOST}) x.refuses("told " + what, OUTSIDE);
        x.tell("age 1 0 5 5", "age 1 1 4 4").is("told 7", 1).refuses("told 8", OUTSIDE);
    }
}
