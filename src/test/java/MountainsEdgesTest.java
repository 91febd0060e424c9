/** Edges of promises 18 to 21, a test for each sentence that names one: mountains. */
public final class MountainsEdgesTest {
    private static final int UNKNOWN = Ash.UNKNOWN, OUTSIDE = Ash.OUTSIDE, NONE = Ash.NONE;
    private static final int LEAST = Ash.LEAST, MOST = Ash.MOST;
    private static final long LOST = Ash.LOST;
    private static final Check check = new Check();

    private static Ash ash(String test) {
        return new Ash(check, test);
    }

    private static Ash sharp(String test) {
        return ash(test).sharp();
    }

    public static void main(String[] args) {
        mountainsTold();
        mountainRefused();
        places();
        placeRefused();
        weightByDifference();
        weightByWander();
        weightIsCut();
        weightRefused();
        whoseFirstFive();
        whoseNone();
        whoseLowestTerms();
        whoseGreatest();
        whoseRefused();
        check.named(18, 21);
        check.end("MountainsEdgesTest");
    }

    // ---- 18

    private static void mountainsTold() {
        Ash x = ash("18 told: 1 (0: it was there); none at first").is("told 5", 0);
        for (int m = 0; m < 6; m++) {
            x.is("mountain " + m + " 0 0 0 0", 1).is("told 5", (2 << m) - 1).is("mountain " + m + " 99 99 99 5", 0)
                .is("told 5", (2 << m) - 1);
        }
        ash("18 the last one alone").is("mountain 5 0 99 0 5", 1).is("told 5", 32).is("way 5 0", NONE).is("way 4 0", UNKNOWN);
        sharp("18 told anew: its numbers and its WANDER are new").tell("grain 0 0 0 50 50 50", "mountain 0 50 50 50 5").is("weight 0 0", 729)
            .is("mountain 0 51 52 53 0", 0).is("weight 0 0", 8 * 7 * 6).is("mountain 0 51 52 53 1", 0).is("weight 0 0", 9 * 8 * 7);
    }

    private static void mountainRefused() {
        ash("18 UNKNOWN").refuses("mountain 6 50 50 50 0", UNKNOWN).refuses("mountain -1 50 50 50 0", UNKNOWN)
            .refuses("mountain " + LEAST + " 50 50 50 0", UNKNOWN)
            .refuses("mountain " + MOST + " 50 50 50 0", UNKNOWN).refuses("mountain 6 100 -1 100 6", UNKNOWN).is("told 5", 0);
        Ash x = ash("18 OUTSIDE").tell("mountain 1 50 50 50 2");
        for (int m = 0; m < 2; m++) {
            String call = "mountain " + m + " ";
            for (int v : new int[] {-1, 100, LEAST, MOST}) {
                x.refuses(call + v + " 50 50 0", OUTSIDE).refuses(call + "50 " + v + " 50 0", OUTSIDE).refuses(call + "50 50 " + v + " 0", OUTSIDE);
            }
            for (int v : new int[] {-1, 6, LEAST, MOST}) x.refuses(call + "50 50 50 " + v, OUTSIDE);
        }
        x.is("told 5", 2).is("mountain 0 50 50 50 0", 1);
    }

    // ---- 19

    private static void places() {
        ash("19 100 times x, and y, as it was").is("place 0 0 20 20", 0).is("place 0 0 20 0", 2020).is("place 0 0 0 20", 2000).is("place 0 0 0 0", 20)
            .is("place 0 0 1 1", 0)
            .is("place 1 5 20 20", 0).is("place 1 5 20 0", 2020).is("place 1 5 0 20", 2000).is("place 1 5 0 0", 20).is("place 1 5 1 1", 0);
        Ash x = ash("19 each MOUNTAIN and each CORE has its own");
        for (int i = 0; i < 12; i++) x.is("place " + i / 6 + " " + i % 6 + " " + i + " " + (20 - i), 0);
        for (int i = 0; i < 12; i++) x.is("place " + i / 6 + " " + i % 6 + " 0 0", 100 * i + 20 - i);
        ash("19 a MOUNTAIN told or not").is("place 0 3 10 10", 0).is("told 5", 0).tell("place 1 0 10 9", "mountain 3 0 0 0 0").is("way 3 0", 0)
            .tell("mountain 3 1 1 1 1").is("place 0 3 10 8", 1010).is("way 3 0", 4);
    }

    private static void placeRefused() {
        ash("19 OUTSIDE: what (ahead)").refuses("place 2 0 0 0", OUTSIDE).refuses("place -1 0 0 0", OUTSIDE).refuses("place 2 6 0 0", OUTSIDE)
            .refuses("place -1 -1 21 21", OUTSIDE)
            .refuses("place " + LEAST + " 6 0 0", OUTSIDE).refuses("place " + MOST + " 6 0 0", OUTSIDE);
        for (int what = 0; what < 2; what++) {
            Ash x = ash("19 UNKNOWN: i 0 to 5, of " + what).tell("place " + what + " 0 3 4", "place " + what + " 5 5 6");
            for (int i : new int[] {-1, 6, LEAST, MOST}) {
                x.refuses("place " + what + " " + i + " 0 0", UNKNOWN)
                    .refuses("place " + what + " " + i + " 21 -1", UNKNOWN);
            }
            x.is("place " + what + " 0 0 0", 304).is("place " + what + " 5 0 0", 506);
            x = ash("19 OUTSIDE: x, y 0 to 20, of " + what).tell("place " + what + " 2 3 4");
            for (int v : new int[] {-1, 21, LEAST, MOST}) {
                x.refuses("place " + what + " 2 " + v + " 0", OUTSIDE).refuses("place " + what + " 2 0 " + v, OUTSIDE)
                    .refuses("place " + what + " 2 " + v + " " + v, OUTSIDE);
            }
            x.is("place " + what + " 2 0 0", 304);
        }
    }

    // ---- 20

    private static void weightByDifference() {
        for (int stuff = 0; stuff < 3; stuff++) {
            Ash x = sharp("20 for each STUFF 9 less the difference, 0 at least, STUFF " + stuff).tell("grain 0 0 0 50 50 50");
            for (int off : new int[] {0, 1, 7, 8, 9, 10, 49}) {
                for (int sign = -1; sign <= 1; sign += 2) {
                    int[] numbers = {50, 50, 50};
                    numbers[stuff] = 50 + sign * off;
                    x.tell("mountain 0 " + numbers[0] + " " + numbers[1] + " " + numbers[2] + " 0").is("weight 0 0", 81 * Math.max(0, 9 - off));
                }
            }
        }
        sharp("20 these times one another: 729 at most, 1 at least if not 0").tell("grain 0 0 0 50 50 50", "mountain 0 50 50 50 0")
            .is("weight 0 0", 729)
            .tell("mountain 0 58 42 58 0").is("weight 0 0", 1).tell("mountain 0 59 50 50 0").is("weight 0 0", 0).tell("mountain 0 59 59 59 0")
            .is("weight 0 0", 0)
            .tell("mountain 0 60 60 50 0").is("weight 0 0", 0);
    }

    private static void weightByWander() {
        for (int wander = 0; wander <= 5; wander++) {
            Ash x = sharp("20 less WANDER, 0 at least, WANDER " + wander).tell("grain 0 0 0 50 50 50");
            for (int off : new int[] {0, wander, wander + 1, wander + 8, wander + 9, wander + 10}) {
                int due = 81 * Math.max(0, 9 - Math.max(0, off - wander));
                x.tell("mountain 0 " + (50 + off) + " 50 50 " + wander).is("weight 0 0", due);
                x.tell("mountain 0 50 50 " + (50 - off) + " " + wander).is("weight 0 0", due);
            }
        }
    }

    /** A lean of 0 to 1 makes the two ends of true together odd: 99 for a reading of 50. */
    private static void weightIsCut() {
        sharp("20 by 2, cut").tell("slack 1", "piece 1 0 50 50", "slack 2", "piece 1 0 50 52", "slack 0", "piece 1 1 50 50", "piece 1 2 50 50")
            .is("lean 1 0 0", 0).is("lean 1 0 1", 1).tell("grain 0 0 1 50 50 50").is("truly 0 0 0", 49).is("truly 0 0 1", 50)
            .tell("mountain 0 50 50 50 0").is("weight 0 0", 729).tell("mountain 0 49 50 50 0").is("weight 0 0", 729)
            .tell("mountain 0 51 50 50 0").is("weight 0 0", 8 * 81).tell("mountain 0 48 50 50 0").is("weight 0 0", 8 * 81)
            .tell("mountain 0 58 50 50 0").is("weight 0 0", 81).tell("mountain 0 59 50 50 0").is("weight 0 0", 0)
            .tell("mountain 0 41 50 50 0").is("weight 0 0", 81).tell("mountain 0 40 50 50 0").is("weight 0 0", 0)
            .tell("mountain 0 51 50 50 1").is("weight 0 0", 729).tell("mountain 0 52 50 50 1").is("weight 0 0", 8 * 81);
        ash("20 TRUE below 0 and beyond 99")
            .tell("slack 0", "piece 0 0 50 59", "piece 0 1 50 41", "piece 0 2 50 50", "grain 0 0 0 0 99 50", "mountain 0 0 99 50 0")
            .is("truly 0 0 0", -9).is("truly 0 1 1", 108).is("weight 0 0", 0).tell("mountain 0 0 99 50 1").is("weight 0 0", 9);
    }

    private static void weightRefused() {
        ash("20 UNKNOWN: no GRAINS, no MOUNTAINS").refuses("weight 0 0", UNKNOWN);
        ash("20 UNKNOWN: no MOUNTAIN told").tell("grain 0 0 0 50 50 50").refuses("weight 0 0", UNKNOWN).refuses("weight 0 5", UNKNOWN);
        ash("20 UNKNOWN: no GRAIN").tell("mountain 0 50 50 50 0").refuses("weight 0 0", UNKNOWN);
        Ash x = ash("20 UNKNOWN").tell("grain 0 0 0 50 50 50", "grain 0 0 0 50 50 50", "mountain 0 50 50 50 0", "mountain 5 50 50 50 0")
            .is("weight 1 5", 729);
        for (int v : new int[] {-1, 2, 60, LEAST, MOST}) x.refuses("weight " + v + " 0", UNKNOWN);
        for (int v : new int[] {-1, 1, 4, 6, LEAST, MOST}) x.refuses("weight 0 " + v, UNKNOWN);
        x.refuses("weight 2 1", UNKNOWN);
    }

    // ---- 21

    private static void whoseFirstFive() {
        Ash x = sharp("21 the WEIGHTS of its first 5 GRAINS").tell("mountain 0 50 50 50 0", "mountain 1 51 50 50 0");
        long nine = 1;
        long eight = 1;
        for (int count = 1; count <= 7; count++) {
            x.tell("grain 0 0 0 50 50 50").tell("grain 0 1 0 51 50 50");
            if (count <= 5) {
                nine *= 9;
                eight *= 8;
            }
            x.is("whose 0 0 0", nine).is("whose 0 0 1", nine + eight).is("whose 0 1 0", eight).is("whose 1 1 0", nine)
                .is("whose 1 0 1", nine + eight);
        }
        sharp("21 the fifth may be none of a MOUNTAIN's").tell("mountain 0 50 50 50 0", "mountain 1 58 50 50 0").tell(4, "grain 0 0 0 54 50 50")
            .is("whose 0 0 0", 1).is("whose 0 0 1", 2)
            .tell("grain 0 0 0 67 50 50").is("whose 0 0 0", 0).is("whose 0 0 1", 1).is("whose 0 1 0", 0);
        sharp("21 the sixth may be none of any").tell("mountain 0 50 50 50 0").tell(5, "grain 0 0 0 50 50 50").tell("grain 0 0 0 99 99 99")
            .is("whose 0 0 0", 1).is("whose 0 0 1", 1);
        sharp("21 the first by their numbers, other LINES' between them").tell("mountain 0 50 50 50 0", "mountain 1 51 50 50 0")
            .tell("grain 0 0 0 50 50 50").tell(9, "grain 0 1 0 51 50 50")
            .tell("grain 0 0 0 50 50 50").is("whose 0 0 0", 81).is("whose 0 0 1", 145);
    }

    private static void whoseNone() {
        sharp("21 0 by 1 for none: no MOUNTAIN has a WEIGHT").tell("grain 0 0 0 50 50 50", "mountain 0 99 99 99 0", "mountain 1 0 0 0 5")
            .is("whose 0 0 0", 0).is("whose 0 0 1", 1)
            .is("whose 0 1 0", 0).is("whose 0 1 1", 1);
        sharp("21 0 by 1 for none: others have one").tell("grain 0 0 0 50 50 50", "mountain 0 99 99 99 0", "mountain 1 50 50 50 5")
            .is("whose 0 0 0", 0).is("whose 0 0 1", 1)
            .is("whose 0 1 0", 1).is("whose 0 1 1", 1);
        sharp("21 a MOUNTAIN alone").tell("grain 0 0 0 50 50 50", "mountain 3 58 58 58 0").is("whose 0 3 0", 1).is("whose 0 3 1", 1);
    }

    private static void whoseLowestTerms() {
        Ash x = sharp("21 in lowest terms").tell("grain 0 0 0 50 50 50", "mountain 0 50 50 50 0");
        for (int m = 1; m < 6; m++) {
            x.tell("mountain " + m + " 50 50 50 0").is("whose 0 0 0", 1).is("whose 0 0 1", m + 1)
                .is("whose 0 " + m + " 1", m + 1);
        }
        x.tell("mountain 5 53 50 50 0").is("whose 0 0 0", 3).is("whose 0 0 1", 17).is("whose 0 5 0", 2).is("whose 0 5 1", 17);
        x.tell("mountain 5 56 50 50 0").is("whose 0 5 0", 1).is("whose 0 5 1", 16);
    }

    private static void whoseGreatest() {
        Ash x = sharp("21 the greatest numbers there are").tell(5, "grain 0 0 0 50 50 50").tell("mountain 0 50 50 50 0").is("whose 0 0 0", 1);
        // Five times 729 and 512: nothing in common, so nothing is shortened.
        x.tell("mountain 1 51 51 51 0").is("whose 0 0 0", 205891132094649L).is("whose 0 0 1", 241075504183481L).is("whose 0 1 0", 35184372088832L);
        for (int m = 2; m < 6; m++) x.tell("mountain " + m + " 50 50 50 0");
        x.is("whose 0 0 0", 205891132094649L).is("whose 0 0 1", 1064640032562077L).is("whose 0 1 0", 35184372088832L)
            .is("whose 0 1 1", 1064640032562077L);
    }

    private static void whoseRefused() {
        Ash x = ash("21 UNKNOWN (LOST less 1)").tell("grain 0 0 0 50 50 50").refuses("whose 0 0 0", LOST - 1).refuses("whose 0 0 2", LOST - 1)
            .tell("mountain 0 50 50 50 0", "mountain 5 50 50 50 0");
        for (int v : new int[] {-1, 1, 143, 144, LEAST, MOST}) x.refuses("whose " + v + " 0 0", LOST - 1).refuses("whose " + v + " 0 2", LOST - 1);
        for (int v : new int[] {-1, 1, 4, 6, LEAST, MOST}) x.refuses("whose 0 " + v + " 0", LOST - 1).refuses("whose 0 " + v + " -1", LOST - 1);
        x = ash("21 OUTSIDE (LOST less 2)").tell("grain 0 0 0 50 50 50", "mountain 0 50 50 50 0");
        for (int v : new int[] {-1, 2, LEAST, MOST}) x.refuses("whose 0 0 " + v, LOST - 2);
        x.is("whose 0 0 0", 1).is("whose 0 0 1", 1);
        ash("21 UNKNOWN: nothing there yet").refuses("whose 0 0 0", LOST - 1);
    }
}
