/** Edges of promises 30 to 37, a test for each sentence that names one: hours, winds, names. */
public final class HoursEdgesTest {
    private static final int UNKNOWN = Ash.UNKNOWN, OUTSIDE = Ash.OUTSIDE, STATE = Ash.STATE, NONE = Ash.NONE;
    private static final int LEAST = Ash.LEAST, MOST = Ash.MOST;
    private static final int[] NO_DAYS = {-1, 10, LEAST, MOST};
    private static final int[] NO_LINES = {-1, 1, 142, 144, LEAST, MOST};
    private static final Check check = new Check();

    /** An object that reads what is true by house 0, with one grain of 50, 50, 50 in each of these lines. */
    private static Ash ash(String test, int... lines) {
        return new Ash(check, test).sharp().lines(lines);
    }

    /** The glass of a day's hour, all stuffs 50 but the first. */
    private static Ash shade(Ash x, int day, int hour, int first) {
        return x.tell("shade " + day + " " + hour + " 0 " + first, "shade " + day + " " + hour + " 1 50", "shade " + day + " " + hour + " 2 50");
    }

    public static void main(String[] args) {
        bornOf();
        bornRefused();
        shades();
        shadeRefused();
        hourByGaps();
        hourRefused();
        ways();
        waysFromTheRims();
        wayRefused();
        windsOfAnHour();
        windsOfBoth();
        windsRefused();
        names();
        nameRefused();
        severalDays();
        calledNames();
        check.named(30, 37);
        check.end("HoursEdgesTest");
    }

    // ---- 30

    private static void bornOf() {
        ash("30 which it was (NONE); -1: none").is("born 0 -1", NONE).tell("mountain 0 1 1 1 1", "mountain 5 1 1 1 1").is("born 0 0", NONE)
            .is("born 0 5", 0).is("born 0 5", 5).is("born 0 -1", 5).is("born 0 -1", NONE)
            .is("born 9 5", NONE).is("born 9 0", 5).is("born 8 5", NONE);
        ash("30 a MOUNTAIN told anew is still the DAY's").tell("mountain 2 1 1 1 1", "born 3 2", "mountain 2 9 9 9 0").is("born 3 -1", 2);
    }

    private static void bornRefused() {
        Ash x = ash("30 UNKNOWN: DAY").tell("mountain 0 1 1 1 1", "mountain 5 1 1 1 1", "born 0 0", "born 9 5");
        for (int day : NO_DAYS) {
            x.refuses("born " + day + " 0", UNKNOWN).refuses("born " + day + " -1", UNKNOWN)
                .refuses("born " + day + " 6", UNKNOWN);
        }
        for (int m : new int[] {-2, 1, 4, 6, LEAST, MOST}) x.refuses("born 0 " + m, UNKNOWN).refuses("born 9 " + m, UNKNOWN);
        x.is("born 0 -1", 0).is("born 9 -1", 5);
        x = ash("30 UNKNOWN: no MOUNTAIN told yet");
        for (int m = 0; m < 6; m++) x.refuses("born 0 " + m, UNKNOWN);
        x.tell("place 0 3 5 5").refuses("born 0 3", UNKNOWN).tell("mountain 3 0 0 0 0").is("born 0 3", NONE);
    }

    // ---- 31

    private static void shades() {
        Ash x = ash("31 which it was; all 0 at first; 0 to 99");
        for (int i = 0; i < 60; i++) x.is("shade " + i / 6 + " " + i / 3 % 2 + " " + i % 3 + " " + (99 - i), 0);
        for (int i = 0; i < 60; i++) x.is("shade " + i / 6 + " " + i / 3 % 2 + " " + i % 3 + " 0", 99 - i);
        x.is("shade 9 1 2 99", 0).is("shade 9 1 2 99", 99).is("shade 9 1 2 0", 99);
    }

    private static void shadeRefused() {
        Ash x = ash("31 UNKNOWN").tell("shade 0 0 0 7", "shade 9 1 2 8");
        for (int day : NO_DAYS) x.refuses("shade " + day + " 0 0 5", UNKNOWN).refuses("shade " + day + " 2 3 100", UNKNOWN);
        x = ash("31 OUTSIDE: HOUR (0, 1)").tell("shade 0 0 0 7", "shade 9 1 2 8");
        for (int hour : new int[] {-1, 2, LEAST, MOST}) x.refuses("shade 0 " + hour + " 0 5", OUTSIDE).refuses("shade 9 " + hour + " 2 5", OUTSIDE);
        x = ash("31 OUTSIDE: STUFF").tell("shade 0 0 0 7", "shade 9 1 2 8");
        for (int stuff : new int[] {-1, 3, LEAST, MOST}) {
            x.refuses("shade 0 0 " + stuff + " 5", OUTSIDE)
                .refuses("shade 9 1 " + stuff + " 5", OUTSIDE);
        }
        x = ash("31 OUTSIDE: numbers 0 to 99").tell("shade 0 0 0 7", "shade 9 1 2 8");
        for (int v : new int[] {-1, 100, LEAST, MOST}) x.refuses("shade 0 0 0 " + v, OUTSIDE).refuses("shade 9 1 2 " + v, OUTSIDE);
        x.is("shade 0 0 0 0", 7).is("shade 9 1 2 0", 8);
    }

    // ---- 32

    private static void hourByGaps() {
        Ash x = ash("32 the lesser sum of the GAPS; 2: both alike", 0).tell("tie 0 9").is("hour 0", 2);
        shade(x, 9, 0, 50).is("hour 0", 0);
        shade(x, 9, 1, 51).is("hour 0", 0).tell("shade 9 0 0 52").is("hour 0", 1).tell("shade 9 0 0 51").is("hour 0", 2).tell("shade 9 0 0 49")
            .is("hour 0", 2).tell("shade 9 0 0 48").is("hour 0", 1)
            .tell("shade 9 1 0 99").is("hour 0", 0).tell("shade 9 0 0 0").is("hour 0", 1).tell("shade 9 1 0 0").is("hour 0", 2);
        x = ash("32 over all STUFFS", 0).tell("tie 0 0");
        shade(x, 0, 0, 50);
        shade(x, 0, 1, 50).tell("shade 0 0 2 53", "shade 0 1 0 51", "shade 0 1 1 49").is("hour 0", 1).tell("shade 0 1 2 51").is("hour 0", 2)
            .tell("shade 0 1 2 52").is("hour 0", 0);
        x = ash("32 a number within GLASS has no GAP, at its ends neither", 0).tell("grain 0 0 0 60 50 50", "tie 0 0");
        shade(x, 0, 0, 50);
        shade(x, 0, 1, 60).is("hour 0", 2).tell("shade 0 1 0 61").is("hour 0", 0).tell("shade 0 0 0 48").is("hour 0", 1).tell("shade 0 0 0 49")
            .is("hour 0", 2).tell("shade 0 0 0 55", "shade 0 1 0 60").is("hour 0", 2);
        x = ash("32 by the DAY it is TIED to, SUNK or not", 143).tell("tie 143 0");
        shade(x, 0, 0, 50);
        shade(x, 1, 1, 50).is("hour 143", 0).tell("tie 143 1").is("hour 143", 1).tell("sunk 143 true").is("hour 143", 1).tell("tie 143 2")
            .is("hour 143", 2);
    }

    private static void hourRefused() {
        Ash x = ash("32 UNKNOWN: also it is not TIED", 0, 143).refuses("hour 0", UNKNOWN).tell("tie 0 0").is("hour 0", 2)
            .refuses("hour 143", UNKNOWN);
        for (int line : NO_LINES) x.refuses("hour " + line, UNKNOWN);
        x.tell("tie 0 -1").refuses("hour 0", UNKNOWN);
        ash("32 UNKNOWN: no LINES yet").refuses("hour 0", UNKNOWN);
    }

    // ---- 33

    private static void ways() {
        int[][] due = {
            {0, -1, 0}, {0, -10, 0}, {1, -3, 0}, {1, -2, 1}, {1, -1, 1}, {2, -1, 1}, {3, -1, 2}, {1, 0, 2},
            {10, 0, 2}, {3, 1, 2}, {2, 1, 3}, {1, 1, 3}, {1, 2, 3}, {1, 3, 4}, {0, 1, 4}, {0, 10, 4},
            {-1, 3, 4}, {-1, 2, 5}, {-1, 1, 5}, {-2, 1, 5}, {-3, 1, 6}, {-1, 0, 6}, {-10, 0, 6}, {-3, -1, 6},
            {-2, -1, 7}, {-1, -1, 7}, {-1, -2, 7}, {-1, -3, 0}, {10, 5, 3}, {10, 4, 2}, {5, 10, 3}, {4, 10, 4},
            {-10, 5, 5}, {-10, 4, 6}, {-5, 10, 5}, {-4, 10, 4}, {10, -5, 1}, {10, -4, 2}, {5, -10, 1}, {4, -10, 0},
            {-10, -5, 7}, {-10, -4, 6}, {-5, -10, 7}, {-4, -10, 0}, {9, 4, 2}, {9, 5, 3}, {4, -9, 0}, {5, -9, 1}
        };
        Ash x = ash("33 straight, if one difference is more than twice the other one, else between").tell("mountain 5 0 0 0 0", "place 0 5 10 10");
        for (int[] to : due) x.tell("place 1 5 " + (10 + to[0]) + " " + (10 + to[1])).is("way 5 5", to[2]);
        x.tell("place 1 5 10 10").is("way 5 5", NONE);
    }

    private static void waysFromTheRims() {
        ash("33 NONE: they are at one place").tell("mountain 0 0 0 0 0").is("way 0 0", NONE).tell("place 0 0 20 20").is("way 0 0", 7)
            .tell("place 1 0 20 20").is("way 0 0", NONE).is("way 0 5", 7);
        ash("33 from rim to rim")
            .tell("mountain 0 0 0 0 0", "place 1 0 20 20", "place 1 1 20 0", "place 1 2 0 20", "place 1 3 20 10", "place 1 4 20 9", "place 1 5 9 20")
            .is("way 0 0", 3).is("way 0 1", 2).is("way 0 2", 4).is("way 0 3", 3).is("way 0 4", 2).is("way 0 5", 4)
            .tell("place 0 0 20 20").is("way 0 0", NONE).is("way 0 1", 0).is("way 0 2", 6).is("way 0 3", 0).is("way 0 4", 0).is("way 0 5", 6)
            .tell("place 0 0 0 20").is("way 0 1", 1).tell("place 0 0 20 0").is("way 0 2", 5);
    }

    private static void wayRefused() {
        Ash x = ash("33 UNKNOWN").tell("mountain 0 0 0 0 0", "mountain 5 0 0 0 0", "place 0 1 9 9");
        for (int m : new int[] {-1, 1, 4, 6, LEAST, MOST}) x.refuses("way " + m + " 0", UNKNOWN).refuses("way " + m + " 6", UNKNOWN);
        for (int core : new int[] {-1, 6, LEAST, MOST}) x.refuses("way 0 " + core, UNKNOWN).refuses("way 5 " + core, UNKNOWN);
        ash("33 UNKNOWN: no MOUNTAIN told yet").refuses("way 0 0", UNKNOWN).refuses("way 5 5", UNKNOWN);
    }

    // ---- 34

    private static void windsOfAnHour() {
        Ash x = ash("34 WAYS to all CORES with a LINE of it of that HOUR", 0, 24, 48, 72, 96, 143)
            .tell("mountain 3 0 0 0 0", "place 0 3 10 10", "born 9 3").are(0, "winds 9 0", "winds 9 1");
        x.tell("place 1 0 10 0", "place 1 1 20 0", "place 1 2 20 10", "place 1 3 20 20", "place 1 4 0 20", "place 1 5 0 0");
        shade(x, 9, 0, 50);
        shade(x, 9, 1, 99).tell("tie 0 9").is("winds 9 0", 1).is("winds 9 1", 0).tell("tie 24 9", "tie 48 9", "tie 72 9", "tie 96 9", "tie 143 9")
            .is("winds 9 0", 1 + 2 + 4 + 8 + 32 + 128).is("winds 9 1", 0);
        x.tell("tie 143 8").is("winds 9 0", 47).tell("shade 9 1 0 50", "shade 9 0 0 99").is("winds 9 0", 0).is("winds 9 1", 47).tell("sunk 96 true")
            .is("winds 9 1", 47).tell("place 1 4 10 10").is("winds 9 1", 15)
            .tell("place 1 3 20 10").is("winds 9 1", 7).tell("place 0 3 20 10").is("winds 9 1", 64 + 1 + 128);
        ash("34 each way is a bit of its own", 0).tell("mountain 0 0 0 0 0", "place 0 0 10 10", "born 0 0", "tie 0 0").is("winds 0 0", 128)
            .tell("place 1 0 0 10").is("winds 0 0", 64).tell("place 1 0 10 20").is("winds 0 0", 16)
            .tell("place 1 0 10 10").is("winds 0 0", 0);
    }

    private static void windsOfBoth() {
        Ash x = ash("34 2 counts for both", 0, 24, 25)
            .tell("mountain 0 0 0 0 0", "place 0 0 10 10", "place 1 0 10 0", "place 1 1 20 10", "born 0 0", "tie 0 0", "tie 24 0")
            .are(5, "winds 0 0", "winds 0 1");
        shade(x, 0, 0, 50).is("winds 0 0", 5).is("winds 0 1", 0);
        shade(x, 0, 1, 50).are(5, "winds 0 0", "winds 0 1").tell("grain 0 0 0 60 50 50", "shade 0 0 0 60").is("hour 0", 2).is("hour 24", 1)
            .is("winds 0 0", 1).is("winds 0 1", 5);
        x.tell("grain 1 1 0 60 50 50", "grain 1 1 0 60 50 50", "tie 25 0").is("winds 0 0", 5);
    }

    private static void windsRefused() {
        Ash x = ash("34 UNKNOWN ahead of OUTSIDE").tell("mountain 0 0 0 0 0", "born 0 0", "born 9 0");
        for (int day : NO_DAYS) x.refuses("winds " + day + " 0", UNKNOWN).refuses("winds " + day + " 2", UNKNOWN);
        x = ash("34 OUTSIDE: an HOUR (0, 1)").tell("mountain 0 0 0 0 0", "born 0 0");
        for (int hour : new int[] {-1, 2, LEAST, MOST}) x.refuses("winds 0 " + hour, OUTSIDE).refuses("winds 1 " + hour, OUTSIDE);
        x = ash("34 STATE: the DAY has no MOUNTAIN", 0).tell("mountain 0 0 0 0 0", "tie 0 0").refuses("winds 0 0", STATE).refuses("winds 0 1", STATE)
            .refuses("winds 9 0", STATE).tell("born 0 0").is("winds 0 0", 0)
            .refuses("winds 1 0", STATE).tell("born 0 -1").refuses("winds 0 0", STATE);
    }

    // ---- 35

    private static void names() {
        ash("35 which it was (NONE); -1: none", 0, 143).is("name 0 -1", NONE).is("name 0 0", NONE).is("name 0 7", 0).is("name 0 7", 7)
            .is("name 0 -1", 7).is("name 0 -1", NONE).is("name 143 7", NONE).is("name 143 0", 7).is("name 0 1", NONE);
        ash("35 a LINE may have one, TIED or not, SUNK or not", 0).tell("name 0 3", "name 0 4", "tie 0 0").is("called 0", 1).tell("sunk 0 true")
            .is("called 0", 1).is("name 0 3", 4);
    }

    private static void nameRefused() {
        Ash x = ash("35 UNKNOWN: NAME, also it has no GRAINS", 0, 143).tell("name 0 5", "name 143 7");
        for (int line : NO_LINES) {
            x.refuses("name " + line + " 0", UNKNOWN).refuses("name " + line + " -1", UNKNOWN)
                .refuses("name " + line + " 8", UNKNOWN);
        }
        for (int name : new int[] {-2, 8, LEAST, MOST}) x.refuses("name 0 " + name, UNKNOWN).refuses("name 143 " + name, UNKNOWN);
        x.is("name 0 -1", 5).is("name 143 -1", 7);
        ash("35 UNKNOWN: no LINES yet").refuses("name 0 0", UNKNOWN);
    }

    // ---- 36 and 37

    private static void severalDays() {
        ash("36 no NAMES, no TIES yet").is("several", 0);
        ash("36 LINES without a NAME", 0, 24).tell("tie 0 0", "tie 24 1").is("several", 0).tell("name 0 7").is("several", 0);
        ash("36 LINES are TIED to unlike DAYS", 0, 24, 48).tell("name 0 0", "name 24 0", "name 48 7").is("several", 0).tell("tie 0 0")
            .is("several", 0).tell("tie 24 0").is("several", 0).tell("tie 24 9").is("several", 1)
            .tell("name 0 7").is("several", 0).tell("tie 48 5").is("several", 128).tell("sunk 48 true").is("several", 128).tell("tie 48 -1")
            .is("several", 0).tell("tie 48 0").is("several", 0);
        int[] lines = new int[16];
        for (int i = 0; i < 16; i++) lines[i] = i;
        Ash x = ash("36 all NAMES", lines);
        for (int i = 0; i < 16; i++) x.tell("name " + i + " " + i / 2, "tie " + i + " " + i % 2).is("several", (1 << (i + 1) / 2) - 1);
        x.is("several", 255).tell("name 15 -1").is("several", 127);
    }

    private static void calledNames() {
        Ash x = ash("37 how many unlike NAMES", 0, 1, 2, 3, 4, 5, 6, 7, 8).is("called 9", 0);
        for (int i = 0; i < 8; i++) x.tell("tie " + i + " 9").is("called 9", i).tell("name " + i + " " + i).is("called 9", i + 1);
        x.tell("tie 8 9").is("called 9", 8).tell("name 8 7").is("called 9", 8).tell("name 7 -1").is("called 9", 8).tell("name 8 -1").is("called 9", 7)
            .tell("tie 0 0").is("called 9", 6).is("called 0", 1);
        x.tell("sunk 0 true").is("called 0", 1);
        for (int day : NO_DAYS) x.refuses("called " + day, UNKNOWN);
        ash("37 no LINES yet").are(0, "called 0", "called 9").refuses("called 10", UNKNOWN);
    }
}
