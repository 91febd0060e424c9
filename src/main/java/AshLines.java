import java.util.Arrays;

/**
 * Ash in cores: what its glass truly is, which lines are the same, which days they are of,
 * how old all of it is, and where to look next. The document's promises are kept here by number.
 *
 * All rows are made when the object is, and used again by every call: no call makes anything.
 */
public final class AshLines {
    public static final int NONE = -6, UNKNOWN = -1, OUTSIDE = -2, STATE = -3, FULL = -4, NO = -5;
    public static final long LOST = -1000000000000000000L;
    public static final int GONE = -1000000;

    private static final int STUFFS = 3;
    private static final int HOUSES = 3;
    private static final int CORES = 6;
    private static final int INCHES = 24;
    private static final int ALL_INCHES = CORES * INCHES;
    private static final int MOUNTAINS = 6;
    private static final int DAYS = 10;
    private static final int HOURS = 2;
    private static final int NAMES = 8;
    private static final int ENDS = 2;
    private static final int PARTS = 2;

    private static final int MOST_PIECES = 30;
    private static final int MOST_GRAINS = 60;
    private static final int MOST_SIGNS = 50;
    private static final int MOST_DROPS = 10;
    private static final int GREATEST_NUMBER = 99;
    private static final int GREATEST_LEAN = 9;
    private static final int GREATEST_SLACK = 3;
    private static final int GREATEST_WANDER = 5;
    private static final int GREATEST_PLACE = 20;
    private static final int GREATEST_AGE = 9999;
    private static final int GREATEST_PURSE = 600;
    private static final int TENTHS = 10;

    /** Stands for no day, no mountain, no name, no line: numbers that are told begin at 0. */
    private static final int UNSET = -1;

    /** Far above the turns that anything needs which is done "till nothing changes". */
    private static final int TURNS = 1000;

    private final Leans leans;
    private final Lines lines;
    private final Ties ties;
    private final Ages ages;
    private final Rule law;
    private final Kin kin;
    private final Mountains mountains;
    private final Days days;
    private final Steps steps;
    private final Search search;

    /** Promise 1. */
    public AshLines() {
        leans = new Leans();
        lines = new Lines(leans);
        ties = new Ties();
        ages = new Ages(ties);
        law = new Rule();
        kin = new Kin(lines, ages, law);
        mountains = new Mountains(lines);
        days = new Days(lines, ties, mountains);
        steps = new Steps(ties);
        search = new Search();
    }

    // ---- 1 houses, grains, lines

    /** Promise 2. */
    public int piece(int house, int stuff, int known, int read) {
        if (!isBelow(house, HOUSES)) return UNKNOWN;
        if (!isBelow(stuff, STUFFS) || !isNumber(known) || !isNumber(read)) return OUTSIDE;
        if (leans.taken >= MOST_PIECES) return FULL;
        if (!leans.takePiece(house * STUFFS + stuff, read - known)) return NO;
        lines.weighAnew();
        return leans.taken;
    }

    /** Promise 3. */
    public int round(int house, int other, int stuff, int read, int by) {
        if (!isBelow(house, HOUSES) || !isBelow(other, HOUSES) || house == other) return UNKNOWN;
        if (!isBelow(stuff, STUFFS) || !isNumber(read) || !isNumber(by)) return OUTSIDE;
        if (leans.taken >= MOST_PIECES) return FULL;
        if (!leans.takeRound(house * STUFFS + stuff, other * STUFFS + stuff, read - by)) return NO;
        lines.weighAnew();
        return leans.taken;
    }

    /** Promise 4. */
    public int lean(int house, int stuff, int end) {
        if (!isBelow(house, HOUSES)) return GONE + UNKNOWN;
        if (!isBelow(stuff, STUFFS) || !isBelow(end, ENDS)) return GONE + OUTSIDE;
        int at = house * STUFFS + stuff;
        return end == 0 ? leans.least[at] : leans.most[at];
    }

    /** Promise 5. */
    public int slack(int v) {
        if (v < 0 || v > GREATEST_SLACK) return OUTSIDE;
        int was = leans.give;
        leans.give = v;
        lines.weighAnew();
        return was;
    }

    /** Promise 6. */
    public int grain(int core, int inch, int house, int a, int b, int c) {
        if (!isBelow(core, CORES) || !isBelow(inch, INCHES) || !isBelow(house, HOUSES)) return UNKNOWN;
        if (!isNumber(a) || !isNumber(b) || !isNumber(c)) return OUTSIDE;
        if (lines.grainCount >= MOST_GRAINS) return FULL;
        int number = lines.add(core * INCHES + inch, house, a, b, c);
        lines.weighAnew();
        return number;
    }

    /** Promise 7. */
    public int truly(int grain, int stuff, int end) {
        if (!isBelow(grain, lines.grainCount)) return GONE + UNKNOWN;
        if (!isBelow(stuff, STUFFS) || !isBelow(end, ENDS)) return GONE + OUTSIDE;
        return end == 0 ? lines.trueLeast(grain, stuff) : lines.trueMost(grain, stuff);
    }

    /** Promise 8. */
    public int grains(int line) {
        if (!isBelow(line, ALL_INCHES)) return UNKNOWN;
        return lines.grainsIn[line];
    }

    /** Promise 9. */
    public int glass(int line, int stuff, int end) {
        if (!lines.isLine(line)) return GONE + UNKNOWN;
        if (!isBelow(stuff, STUFFS) || !isBelow(end, ENDS)) return GONE + OUTSIDE;
        int at = line * STUFFS + stuff;
        return end == 0 ? lines.glassLeast[at] : lines.glassMost[at];
    }

    // ---- 2 rules

    /** Promise 10. */
    public int say(int sign) {
        if (sign < 33 || sign > 126) return OUTSIDE;
        if (law.signCount >= MOST_SIGNS) return FULL;
        law.signs[law.signCount] = sign;
        law.signCount++;
        return law.signCount;
    }

    /** Promise 11. */
    public int wipe() {
        int was = law.signCount;
        law.signCount = 0;
        return was;
    }

    /** Promise 12. */
    public int fault() {
        return law.firstBad();
    }

    /** Promise 13. */
    public int rule() {
        if (law.firstBad() != NONE) return NO;
        law.learn();
        law.signCount = 0;
        return law.boths;
    }

    /** Promise 14. */
    public int gap(int line, int other, int what) {
        if (!areTwoLines(line, other)) return UNKNOWN;
        if (what < 0 || what > STUFFS) return OUTSIDE;
        if (what < STUFFS) return lines.glassGap(line, other, what);
        if (ages.clashes(UNSET)) return NO;
        return ages.ageGap(line, other);
    }

    /** Promise 15. */
    public int alike(int line, int other) {
        if (!areTwoLines(line, other)) return UNKNOWN;
        int refusal = ruleRefusal();
        if (refusal != 0) return refusal;
        return kin.areKin(line, other) ? 1 : 0;
    }

    /** Promise 16. */
    public int chain(int line, int i) {
        if (!lines.isLine(line)) return UNKNOWN;
        int refusal = ruleRefusal();
        if (refusal != 0) return refusal;
        kin.findMates();
        long all = kin.chainFrom(lines.rankOf(line));
        if (i == -1) return Long.bitCount(all);
        return kin.lineIn(all, i);
    }

    /** Promise 17. */
    public int broken() {
        int refusal = ruleRefusal();
        if (refusal != 0) return refusal;
        kin.findMates();
        return kin.countBroken();
    }

    /** Why a rule can't be asked now, or 0; leaves the net reckoned if the rule asks for ages. */
    private int ruleRefusal() {
        if (law.boths == 0) return STATE;
        if (law.asksAges && ages.clashes(UNSET)) return NO;
        return 0;
    }

    private boolean areTwoLines(int line, int other) {
        return line != other && lines.isLine(line) && lines.isLine(other);
    }

    // ---- 3 mountains

    /** Promise 18. */
    public int mountain(int m, int a, int b, int c, int wander) {
        if (!isBelow(m, MOUNTAINS)) return UNKNOWN;
        if (!isNumber(a) || !isNumber(b) || !isNumber(c)) return OUTSIDE;
        if (wander < 0 || wander > GREATEST_WANDER) return OUTSIDE;
        boolean wasThere = mountains.isKnown(m);
        mountains.tell(m, a, b, c, wander);
        return wasThere ? 0 : 1;
    }

    /** Promise 19. */
    public int place(int what, int i, int x, int y) {
        if (what != 0 && what != 1) return OUTSIDE;
        if (!isBelow(i, what == 0 ? MOUNTAINS : CORES)) return UNKNOWN;
        if (x < 0 || x > GREATEST_PLACE || y < 0 || y > GREATEST_PLACE) return OUTSIDE;
        int at = what * MOUNTAINS + i;
        int was = 100 * mountains.x[at] + mountains.y[at];
        mountains.x[at] = x;
        mountains.y[at] = y;
        return was;
    }

    /** Promise 20. */
    public int weight(int grain, int mountain) {
        if (!isBelow(grain, lines.grainCount) || !mountains.isKnown(mountain)) return UNKNOWN;
        return mountains.weigh(grain, mountain);
    }

    /** Promise 21. */
    public long whose(int line, int mountain, int part) {
        if (!lines.isLine(line) || !mountains.isKnown(mountain)) return LOST + UNKNOWN;
        if (!isBelow(part, PARTS)) return LOST + OUTSIDE;
        long together = 0;
        for (int m = 0; m < MOUNTAINS; m++) {
            if (mountains.isKnown(m)) together += mountains.weighLine(line, m);
        }
        return partOf(mountains.weighLine(line, mountain), together, part);
    }

    // ---- 4 days, ties, ages

    /** Promise 22. */
    public int age(int what, int i, int least, int greatest) {
        if (what != 0 && what != 1) return OUTSIDE;
        if (!isBelow(i, what == 0 ? DAYS : ALL_INCHES)) return UNKNOWN;
        if (least < 0 || greatest > GREATEST_AGE || least > greatest) return OUTSIDE;
        int knot = what == 0 ? ALL_INCHES + i : i;
        ages.toldLeast[knot] = least;
        ages.toldMost[knot] = greatest;
        return 1;
    }

    /** Promise 23. */
    public int tie(int line, int day) {
        if (!lines.isLine(line) || day < UNSET || day >= DAYS) return UNKNOWN;
        int was = ties.dayOf[line];
        ties.dayOf[line] = day;
        return noneIfUnset(was);
    }

    /** Promise 24. */
    public int sunk(int line, boolean is) {
        if (!lines.isLine(line)) return UNKNOWN;
        boolean was = ties.isSunk[line];
        ties.isSunk[line] = is;
        return was ? 1 : 0;
    }

    /** Promise 25. */
    public int above(int day, int other) {
        if (!isBelow(day, DAYS) || !isBelow(other, DAYS)) return UNKNOWN;
        ties.listOrdering();
        ties.findOver(0);
        return ties.over[other] >> day & 1;
    }

    /** Promise 26. */
    public int untrue() {
        ties.listOrdering();
        return ties.untrueWithout(0);
    }

    /** Promise 27. */
    public int drop(int what) {
        boolean asksLine = what >= 10 && what < 10 + MOST_DROPS;
        if (what != 0 && what != 1 && !asksLine) return OUTSIDE;
        ties.listOrdering();
        if (asksLine) return what - 10 < ties.orderings ? ties.orderingLine[what - 10] : NONE;
        int set = ties.fewestToGo();
        if (set == UNSET) return NO;
        return what == 0 ? set : Integer.bitCount(set);
    }

    /** Promise 28. */
    public int net(int what, int i, int end) {
        if (what != 0 && what != 1) return OUTSIDE;
        if (!isBelow(i, what == 0 ? DAYS : ALL_INCHES)) return UNKNOWN;
        if (!isBelow(end, ENDS)) return OUTSIDE;
        if (ages.clashes(UNSET)) return NO;
        int knot = what == 0 ? ALL_INCHES + i : i;
        return end == 0 ? ages.least[knot] : ages.most[knot];
    }

    /** Promise 29. */
    public int gain(int line) {
        if (!isBelow(line, ALL_INCHES) || !ties.isOrdering(line)) return UNKNOWN;
        if (ages.clashes(UNSET)) return NO;
        int core = line / INCHES;
        int with = ages.yearsOpen(core);
        if (ages.clashes(line)) return NO;
        return ages.yearsOpen(core) - with;
    }

    // ---- 5 hours, winds, names

    /** Promise 30. */
    public int born(int day, int mountain) {
        if (!isBelow(day, DAYS)) return UNKNOWN;
        if (mountain != UNSET && !mountains.isKnown(mountain)) return UNKNOWN;
        int was = days.mountainOf[day];
        days.mountainOf[day] = mountain;
        return noneIfUnset(was);
    }

    /** Promise 31. */
    public int shade(int day, int hour, int stuff, int v) {
        if (!isBelow(day, DAYS)) return UNKNOWN;
        if (!isBelow(hour, HOURS) || !isBelow(stuff, STUFFS) || !isNumber(v)) return OUTSIDE;
        int at = days.shadeAt(day, hour, stuff);
        int was = days.shades[at];
        days.shades[at] = v;
        return was;
    }

    /** Promise 32. */
    public int hour(int line) {
        if (!isBelow(line, ALL_INCHES) || ties.dayOf[line] == UNSET) return UNKNOWN;
        return days.hourOf(line);
    }

    /** Promise 33. */
    public int way(int mountain, int core) {
        if (!mountains.isKnown(mountain) || !isBelow(core, CORES)) return UNKNOWN;
        return mountains.wayTo(mountain, core);
    }

    /** Promise 34. */
    public int winds(int day, int hour) {
        if (!isBelow(day, DAYS)) return UNKNOWN;
        if (!isBelow(hour, HOURS)) return OUTSIDE;
        if (days.mountainOf[day] == UNSET) return STATE;
        return days.waysOf(day, hour);
    }

    /** Promise 35. */
    public int name(int line, int name) {
        if (!lines.isLine(line) || name < UNSET || name >= NAMES) return UNKNOWN;
        int was = ties.nameOf[line];
        ties.nameOf[line] = name;
        return noneIfUnset(was);
    }

    /** Promise 36. */
    public int several() {
        int bits = 0;
        for (int name = 0; name < NAMES; name++) {
            if (Integer.bitCount(ties.daysNamed(name)) > 1) bits |= 1 << name;
        }
        return bits;
    }

    /** Promise 37. */
    public int called(int day) {
        if (!isBelow(day, DAYS)) return UNKNOWN;
        return Integer.bitCount(ties.namesOfDay(day));
    }

    // ---- 6 what was first, where to look

    /** Promise 38. */
    public int first(int one, int other) {
        if (!isBelow(one, ALL_INCHES) || !isBelow(other, ALL_INCHES) || one == other) return UNKNOWN;
        if (ages.clashes(UNSET)) return NO;
        ties.listOrdering();
        if (ties.untrueWithout(0) != 0) return NO;
        int answer = 0;
        if (isOlder(one, other)) answer += 1;
        if (isOlder(other, one)) answer += 2;
        return answer;
    }

    /** Wants the net reckoned. */
    private boolean isOlder(int one, int other) {
        return ages.least[one] > ages.most[other] || steps.lead(one, other);
    }

    /** Promise 39. */
    public int washed(int line) {
        if (!lines.isLine(line)) return UNKNOWN;
        int end = (line / INCHES + 1) * INCHES;
        for (int lower = line + 1; lower < end; lower++) {
            if (lines.grainsIn[lower] > lines.grainsIn[line] && lines.holdsGlass(lower, line)) return 1;
        }
        return 0;
    }

    /** Promise 40. */
    public int look(int core, int what, int v) {
        if (!isBelow(core, CORES)) return UNKNOWN;
        if (what < 0 || what > DAYS || v < 0) return OUTSIDE;
        if (v > (what == DAYS ? GREATEST_NUMBER : TENTHS)) return OUTSIDE;
        return search.tell(core, what, v);
    }

    /** Promise 41. */
    public long worth(int cores, int part) {
        if (!isBelow(cores, 1 << CORES) || !isBelow(part, PARTS)) return LOST + OUTSIDE;
        return partOf(search.worthOf(cores), Search.WHOLE, part);
    }

    /** Promise 42. */
    public int next(int purse, int what) {
        if (purse < 0 || purse > GREATEST_PURSE) return OUTSIDE;
        if (what != 0 && what != 1) return OUTSIDE;
        int set = search.bestFor(purse);
        return what == 0 ? set : search.costOf(set);
    }

    /** Promise 43. */
    public int told(int what) {
        switch (what) {
            case 0: return lines.grainCount;
            case 1: return leans.taken;
            case 2: return law.signCount;
            case 3: return leans.give;
            case 4: return ties.countAll();
            case 5: return mountains.known;
            case 6: return law.boths;
            case 7: return ages.clashes(UNSET) ? 1 : 0;
            default: return OUTSIDE;
        }
    }

    // ---- small helps

    private static boolean isBelow(int v, int bound) {
        return v >= 0 && v < bound;
    }

    private static boolean isNumber(int v) {
        return v >= 0 && v <= GREATEST_NUMBER;
    }

    private static int noneIfUnset(int v) {
        return v == UNSET ? NONE : v;
    }

    /** The gap of two spans. */
    private static int between(int least, int most, int otherLeast, int otherMost) {
        if (least > otherMost) return least - otherMost;
        if (otherLeast > most) return otherLeast - most;
        return 0;
    }

    /** A part of a fraction in lowest terms; none is 0 by 1, also where the lower number is 0. */
    private static long partOf(long upper, long lower, int part) {
        if (upper <= 0 || lower <= 0) return part == 0 ? 0 : 1;
        long shared = greatestShared(upper, lower);
        if (shared <= 0) return LOST;
        return (part == 0 ? upper : lower) / shared;
    }

    private static long greatestShared(long one, long other) {
        long a = one;
        long b = other;
        // Euclid's steps on two longs are fewer than a hundred.
        for (int turn = 0; turn < TURNS && b != 0; turn++) {
            long rest = a % b;
            a = b;
            b = rest;
        }
        return a;
    }

    /** The houses' leans as spans; a lean is found at its house times the stuffs, and the stuff. */
    private static final class Leans {
        private static final int LEANS = HOUSES * STUFFS;

        final int[] least = new int[LEANS];
        final int[] most = new int[LEANS];
        private final int[] keptLeast = new int[LEANS];
        private final int[] keptMost = new int[LEANS];
        private final int[] roundOne = new int[MOST_PIECES];
        private final int[] roundOther = new int[MOST_PIECES];
        private final int[] roundLeast = new int[MOST_PIECES];
        private final int[] roundMost = new int[MOST_PIECES];
        private int rounds;
        int taken;
        int give = 1;

        Leans() {
            Arrays.fill(least, -GREATEST_LEAN);
            Arrays.fill(most, GREATEST_LEAN);
        }

        /** False, with nothing changed, if some span would be left empty. */
        boolean takePiece(int lean, int off) {
            keep();
            // A piece need not be remembered: a span that it has narrowed never grows again.
            raise(lean, off - give);
            lower(lean, off + give);
            if (!settles()) {
                putBack();
                return false;
            }
            taken++;
            return true;
        }

        /** False, with nothing changed, if some span would be left empty. */
        boolean takeRound(int one, int other, int off) {
            if (rounds >= MOST_PIECES) return false;
            keep();
            roundOne[rounds] = one;
            roundOther[rounds] = other;
            roundLeast[rounds] = off - 2 * give;
            roundMost[rounds] = off + 2 * give;
            rounds++;
            if (!settles()) {
                rounds--;
                putBack();
                return false;
            }
            taken++;
            return true;
        }

        private void keep() {
            System.arraycopy(least, 0, keptLeast, 0, LEANS);
            System.arraycopy(most, 0, keptMost, 0, LEANS);
        }

        private void putBack() {
            System.arraycopy(keptLeast, 0, least, 0, LEANS);
            System.arraycopy(keptMost, 0, most, 0, LEANS);
        }

        /** Each turn that changes something takes a number from a span, and these are few. */
        private boolean settles() {
            for (int turn = 0; turn < TURNS; turn++) {
                if (isSomeEmpty()) return false;
                if (!narrowOnce()) return true;
            }
            return false;
        }

        private boolean isSomeEmpty() {
            for (int lean = 0; lean < LEANS; lean++) {
                if (least[lean] > most[lean]) return true;
            }
            return false;
        }

        private boolean narrowOnce() {
            boolean changed = false;
            for (int i = 0; i < rounds; i++) {
                int one = roundOne[i];
                int other = roundOther[i];
                changed |= raise(one, least[other] + roundLeast[i]);
                changed |= lower(one, most[other] + roundMost[i]);
                changed |= raise(other, least[one] - roundMost[i]);
                changed |= lower(other, most[one] - roundLeast[i]);
            }
            return changed;
        }

        private boolean raise(int lean, int v) {
            if (v <= least[lean]) return false;
            least[lean] = v;
            return true;
        }

        private boolean lower(int lean, int v) {
            if (v >= most[lean]) return false;
            most[lean] = v;
            return true;
        }
    }

    /** Grains, and the lines that they make. */
    private static final class Lines {
        /** Beyond every number that glass can have. */
        private static final int FAR = 1000000;

        private final Leans leans;
        final int[] lineOf = new int[MOST_GRAINS];
        private final int[] houseOf = new int[MOST_GRAINS];
        private final int[] reading = new int[MOST_GRAINS * STUFFS];
        final int[] grainsIn = new int[ALL_INCHES];
        final int[] glassLeast = new int[ALL_INCHES * STUFFS];
        final int[] glassMost = new int[ALL_INCHES * STUFFS];
        int grainCount;

        /** The lines by their numbers: never more than there are grains. */
        final int[] ranked = new int[ALL_INCHES];
        int lineCount;

        Lines(Leans leans) {
            this.leans = leans;
        }

        boolean isLine(int line) {
            return isBelow(line, ALL_INCHES) && grainsIn[line] > 0;
        }

        int add(int line, int house, int a, int b, int c) {
            int number = grainCount;
            if (number >= MOST_GRAINS) return FULL;
            lineOf[number] = line;
            houseOf[number] = house;
            reading[number * STUFFS] = a;
            reading[number * STUFFS + 1] = b;
            reading[number * STUFFS + 2] = c;
            grainCount++;
            grainsIn[line]++;
            rankLines();
            return number;
        }

        private void rankLines() {
            lineCount = 0;
            for (int line = 0; line < ALL_INCHES; line++) {
                if (grainsIn[line] > 0) {
                    ranked[lineCount] = line;
                    lineCount++;
                }
            }
        }

        int rankOf(int line) {
            for (int rank = 0; rank < lineCount; rank++) {
                if (ranked[rank] == line) return rank;
            }
            return 0;
        }

        int trueLeast(int grain, int stuff) {
            return reading[grain * STUFFS + stuff] - leans.most[houseOf[grain] * STUFFS + stuff] - leans.give;
        }

        int trueMost(int grain, int stuff) {
            return reading[grain * STUFFS + stuff] - leans.least[houseOf[grain] * STUFFS + stuff] + leans.give;
        }

        /** To be called when a lean, the slack or the grains change: glass hangs on all of them. */
        void weighAnew() {
            Arrays.fill(glassLeast, FAR);
            Arrays.fill(glassMost, -FAR);
            for (int grain = 0; grain < grainCount; grain++) {
                for (int stuff = 0; stuff < STUFFS; stuff++) {
                    int at = lineOf[grain] * STUFFS + stuff;
                    glassLeast[at] = Math.min(glassLeast[at], trueLeast(grain, stuff));
                    glassMost[at] = Math.max(glassMost[at], trueMost(grain, stuff));
                }
            }
        }

        int glassGap(int line, int other, int stuff) {
            int one = line * STUFFS + stuff;
            int two = other * STUFFS + stuff;
            return between(glassLeast[one], glassMost[one], glassLeast[two], glassMost[two]);
        }

        int glassGapTo(int line, int stuff, int number) {
            int at = line * STUFFS + stuff;
            return between(glassLeast[at], glassMost[at], number, number);
        }

        boolean holdsGlass(int holder, int line) {
            for (int stuff = 0; stuff < STUFFS; stuff++) {
                int wide = holder * STUFFS + stuff;
                int narrow = line * STUFFS + stuff;
                if (glassLeast[narrow] < glassLeast[wide] || glassMost[narrow] > glassMost[wide]) return false;
            }
            return true;
        }
    }

    /** The signs that are being said, and the rule that was last made of such. */
    private static final class Rule {
        private static final int BAD = -1, WANTS_FACT = 0, WANTS_COMPARE = 1, WANTS_DIGIT = 2, THREE_DIGITS = 5;

        final int[] signs = new int[MOST_SIGNS];
        int signCount;

        // A test has three signs or more, so that these rows are long enough for all of them.
        final int[] fact = new int[MOST_SIGNS];
        private final int[] compare = new int[MOST_SIGNS];
        private final int[] number = new int[MOST_SIGNS];
        final int[] bothOf = new int[MOST_SIGNS];
        int tests;
        int boths;
        boolean asksAges;

        int firstBad() {
            int stage = WANTS_FACT;
            for (int i = 0; i < signCount; i++) {
                stage = stageAfter(stage, signs[i]);
                if (stage == BAD) return i;
            }
            return stage > WANTS_DIGIT ? NONE : signCount;
        }

        private static int stageAfter(int stage, int sign) {
            if (stage == WANTS_FACT) return isFact(sign) ? WANTS_COMPARE : BAD;
            if (stage == WANTS_COMPARE) return isCompare(sign) ? WANTS_DIGIT : BAD;
            if (isDigit(sign)) return stage < THREE_DIGITS ? stage + 1 : BAD;
            boolean joins = sign == '&' || sign == '|';
            return joins && stage > WANTS_DIGIT ? WANTS_FACT : BAD;
        }

        private static boolean isFact(int sign) {
            return sign == 'g' || sign == 'a' || sign == 'b' || sign == 'c' || sign == 'y';
        }

        private static boolean isCompare(int sign) {
            return sign == '<' || sign == '>' || sign == '=';
        }

        private static boolean isDigit(int sign) {
            return sign >= '0' && sign <= '9';
        }

        /** Only for signs without a fault: then a test is open wherever its parts come. */
        void learn() {
            tests = 0;
            boths = 1;
            asksAges = false;
            for (int i = 0; i < signCount; i++) {
                int sign = signs[i];
                if (isFact(sign)) open(sign);
                else if (sign == '|') boths++;
                else if (tests > 0 && isCompare(sign)) compare[tests - 1] = sign;
                else if (tests > 0 && isDigit(sign)) number[tests - 1] = number[tests - 1] * 10 + sign - '0';
            }
        }

        private void open(int sign) {
            if (tests >= MOST_SIGNS) return;
            fact[tests] = sign;
            number[tests] = 0;
            bothOf[tests] = boths - 1;
            if (sign == 'y') asksAges = true;
            tests++;
        }

        boolean passes(int test, int v) {
            if (compare[test] == '<') return v < number[test];
            if (compare[test] == '>') return v > number[test];
            return v == number[test];
        }
    }

    /** Lines that are alike by the rule, and their chains. */
    private static final class Kin {
        private final Lines lines;
        private final Ages ages;
        private final Rule law;

        /** By a line's rank the ranks of those alike, as bits: 60 lines at most fit into a long. */
        private final long[] mates = new long[MOST_GRAINS];

        Kin(Lines lines, Ages ages, Rule law) {
            this.lines = lines;
            this.ages = ages;
            this.law = law;
        }

        /** Wants the net reckoned, if the rule asks for ages. */
        boolean areKin(int line, int other) {
            int test = 0;
            for (int both = 0; both < law.boths; both++) {
                boolean so = true;
                for (; test < law.tests && law.bothOf[test] == both; test++) {
                    so = so && law.passes(test, factOf(law.fact[test], line, other));
                }
                if (so) return true;
            }
            return false;
        }

        private int factOf(int fact, int line, int other) {
            switch (fact) {
                case 'g': return Math.min(lines.grainsIn[line], lines.grainsIn[other]);
                case 'a': return lines.glassGap(line, other, 0);
                case 'b': return lines.glassGap(line, other, 1);
                case 'c': return lines.glassGap(line, other, 2);
                default: return ages.ageGap(line, other);
            }
        }

        void findMates() {
            int count = Math.min(lines.lineCount, MOST_GRAINS);
            for (int one = 0; one < count; one++) {
                mates[one] = 0;
                for (int other = 0; other < one; other++) {
                    if (areKin(lines.ranked[one], lines.ranked[other])) {
                        mates[one] |= 1L << other;
                        mates[other] |= 1L << one;
                    }
                }
            }
        }

        long chainFrom(int rank) {
            long all = 1L << rank;
            for (int turn = 0; turn < MOST_GRAINS; turn++) {
                long wider = all | matesOfAll(all);
                if (wider == all) break;
                all = wider;
            }
            return all;
        }

        private long matesOfAll(long ranks) {
            long bits = 0;
            for (int rank = 0; rank < MOST_GRAINS; rank++) {
                if ((ranks >> rank & 1) != 0) bits |= mates[rank];
            }
            return bits;
        }

        /** The i-th line of a set of ranks, NONE if there is none. */
        int lineIn(long ranks, int i) {
            int seen = 0;
            for (int rank = 0; rank < MOST_GRAINS; rank++) {
                if ((ranks >> rank & 1) == 0) continue;
                if (seen == i) return lines.ranked[rank];
                seen++;
            }
            return NONE;
        }

        int countBroken() {
            int count = 0;
            long seen = 0;
            for (int rank = 0; rank < lines.lineCount; rank++) {
                if ((seen >> rank & 1) != 0) continue;
                long all = chainFrom(rank);
                seen |= all;
                if (isBroken(all)) count += Long.bitCount(all);
            }
            return count;
        }

        private boolean isBroken(long ranks) {
            for (int rank = 0; rank < MOST_GRAINS; rank++) {
                if ((ranks >> rank & 1) == 0) continue;
                long reached = mates[rank] | 1L << rank;
                if ((ranks & ~reached) != 0) return true;
            }
            return false;
        }
    }

    /** What mountains' glass is, and where they and the cores are. */
    private static final class Mountains {
        private static final int COUNTED_GRAINS = 5;
        private static final int BEST = 9;

        private final Lines lines;
        private final int[] number = new int[MOUNTAINS * STUFFS];
        private final int[] wander = new int[MOUNTAINS];

        /** Mountains' places, then the cores'. */
        final int[] x = new int[MOUNTAINS + CORES];
        final int[] y = new int[MOUNTAINS + CORES];

        /** Which have been told, as bits. */
        int known;

        Mountains(Lines lines) {
            this.lines = lines;
        }

        boolean isKnown(int m) {
            return isBelow(m, MOUNTAINS) && (known >> m & 1) != 0;
        }

        void tell(int m, int a, int b, int c, int strays) {
            number[m * STUFFS] = a;
            number[m * STUFFS + 1] = b;
            number[m * STUFFS + 2] = c;
            wander[m] = strays;
            known |= 1 << m;
        }

        int weigh(int grain, int m) {
            int product = 1;
            for (int stuff = 0; stuff < STUFFS; stuff++) {
                int ends = lines.trueLeast(grain, stuff) + lines.trueMost(grain, stuff);
                int off = Math.abs(ends - 2 * number[m * STUFFS + stuff]) / 2;
                int beyond = Math.max(off - wander[m], 0);
                product *= Math.max(BEST - beyond, 0);
            }
            return product;
        }

        long weighLine(int line, int m) {
            long product = 1;
            int counted = 0;
            for (int grain = 0; grain < lines.grainCount && counted < COUNTED_GRAINS; grain++) {
                if (lines.lineOf[grain] != line) continue;
                product *= weigh(grain, m);
                counted++;
            }
            return product;
        }

        int wayTo(int m, int core) {
            int east = x[MOUNTAINS + core] - x[m];
            int south = y[MOUNTAINS + core] - y[m];
            if (east == 0 && south == 0) return NONE;
            int across = Math.abs(east);
            int along = Math.abs(south);
            if (along > 2 * across) return south < 0 ? 0 : 4;
            if (across > 2 * along) return east > 0 ? 2 : 6;
            if (east > 0) return south < 0 ? 1 : 3;
            return south < 0 ? 7 : 5;
        }
    }

    /** What lines are tied to and called, and the order of days that follows. */
    private static final class Ties {
        final int[] dayOf = new int[ALL_INCHES];
        final boolean[] isSunk = new boolean[ALL_INCHES];
        final int[] nameOf = new int[ALL_INCHES];

        /** The ties that make an order (of lines that are not sunk), by lines. */
        final int[] orderingLine = new int[ALL_INCHES];
        int orderings;

        /** By a day the days that lie above it, as bits. */
        final int[] over = new int[DAYS];

        Ties() {
            Arrays.fill(dayOf, UNSET);
            Arrays.fill(nameOf, UNSET);
        }

        boolean isOrdering(int line) {
            return dayOf[line] != UNSET && !isSunk[line];
        }

        int countAll() {
            int count = 0;
            for (int line = 0; line < ALL_INCHES; line++) {
                if (dayOf[line] != UNSET) count++;
            }
            return count;
        }

        void listOrdering() {
            orderings = 0;
            for (int line = 0; line < ALL_INCHES; line++) {
                if (isOrdering(line)) {
                    orderingLine[orderings] = line;
                    orderings++;
                }
            }
        }

        /** Wants the ties listed; leaves out those of a set of the first ones. */
        void findOver(int leftOut) {
            Arrays.fill(over, 0);
            int core = UNSET;
            int higher = 0;
            for (int i = 0; i < orderings; i++) {
                if (i < MOST_DROPS && (leftOut >> i & 1) != 0) continue;
                int line = orderingLine[i];
                if (line / INCHES != core) {
                    core = line / INCHES;
                    higher = 0;
                }
                int day = dayOf[line];
                over[day] |= higher;
                higher |= 1 << day;
            }
        }

        /** Wants the ties listed; leaves in over what lies above by steps. */
        int untrueWithout(int leftOut) {
            findOver(leftOut);
            for (int by = 0; by < DAYS; by++) {
                for (int day = 0; day < DAYS; day++) {
                    if ((over[day] >> by & 1) != 0) over[day] |= over[by];
                }
            }
            int bits = 0;
            for (int day = 0; day < DAYS; day++) bits |= over[day] & 1 << day;
            return bits;
        }

        /** Wants the ties listed; the set as bits of their numbers, or UNSET if none does. */
        int fewestToGo() {
            int movable = Math.min(orderings, MOST_DROPS);
            int all = (1 << movable) - 1;
            // What all of them can't mend, no fewer can.
            if (!isOrderedWithout(all)) return UNSET;
            for (int size = 0; size < movable; size++) {
                for (int set = 0; set < all; set++) {
                    if (Integer.bitCount(set) == size && isOrderedWithout(set)) return set;
                }
            }
            return all;
        }

        /** Whether no day is untrue then: asked of up to a thousand sets, so it goes a shorter way. */
        private boolean isOrderedWithout(int leftOut) {
            findOver(leftOut);
            int left = (1 << DAYS) - 1;
            for (int turn = 0; turn <= DAYS && left != 0; turn++) {
                int before = left;
                for (int day = 0; day < DAYS; day++) {
                    if ((over[day] & left) == 0) left &= ~(1 << day);
                }
                // Days that all have another one above them go round.
                if (left == before) return false;
            }
            return left == 0;
        }

        int daysNamed(int name) {
            int bits = 0;
            for (int line = 0; line < ALL_INCHES; line++) {
                if (nameOf[line] == name && dayOf[line] != UNSET) bits |= 1 << dayOf[line];
            }
            return bits;
        }

        int namesOfDay(int day) {
            int bits = 0;
            for (int line = 0; line < ALL_INCHES; line++) {
                if (dayOf[line] == day && nameOf[line] != UNSET) bits |= 1 << nameOf[line];
            }
            return bits;
        }
    }

    /** Ages of knots: all inches, then the days. What was told, and the net that follows from it. */
    private static final class Ages {
        private static final int KNOTS = ALL_INCHES + DAYS;

        private final Ties ties;
        final int[] toldLeast = new int[KNOTS];
        final int[] toldMost = new int[KNOTS];
        final int[] least = new int[KNOTS];
        final int[] most = new int[KNOTS];
        private boolean moved;

        Ages(Ties ties) {
            this.ties = ties;
            Arrays.fill(toldMost, GREATEST_AGE);
        }

        /** Reckons the net anew, without the tie of one line (UNSET: with all of them). */
        boolean clashes(int leftOut) {
            System.arraycopy(toldLeast, 0, least, 0, KNOTS);
            System.arraycopy(toldMost, 0, most, 0, KNOTS);
            // Ages only pass along, through each day once at most, so a few turns are enough.
            for (int turn = 0; turn < TURNS; turn++) {
                moved = false;
                for (int core = 0; core < CORES; core++) {
                    passDown(core * INCHES);
                    passUp(core * INCHES);
                }
                passTies(leftOut);
                if (!moved) break;
            }
            for (int knot = 0; knot < KNOTS; knot++) {
                if (least[knot] > most[knot]) return true;
            }
            return false;
        }

        private void passDown(int top) {
            int floor = 0;
            for (int line = top; line < top + INCHES; line++) {
                if (ties.isSunk[line]) continue;
                raise(line, floor);
                floor = least[line];
            }
        }

        private void passUp(int top) {
            int roof = GREATEST_AGE;
            for (int line = top + INCHES - 1; line >= top; line--) {
                if (ties.isSunk[line]) continue;
                lower(line, roof);
                roof = most[line];
            }
        }

        private void passTies(int leftOut) {
            for (int line = 0; line < ALL_INCHES; line++) {
                if (line == leftOut || !ties.isOrdering(line)) continue;
                int day = ALL_INCHES + ties.dayOf[line];
                raise(line, least[day]);
                raise(day, least[line]);
                lower(line, most[day]);
                lower(day, most[line]);
            }
        }

        private void raise(int knot, int v) {
            if (v <= least[knot]) return;
            least[knot] = v;
            moved = true;
        }

        private void lower(int knot, int v) {
            if (v >= most[knot]) return;
            most[knot] = v;
            moved = true;
        }

        int ageGap(int line, int other) {
            return between(least[line], most[line], least[other], most[other]);
        }

        int yearsOpen(int core) {
            int sum = 0;
            for (int line = core * INCHES; line < (core + 1) * INCHES; line++) sum += most[line] - least[line];
            return sum;
        }
    }

    /** Days' mountains and the glass of their first and last hours. */
    private static final class Days {
        private static final int EITHER_HOUR = 2;

        private final Lines lines;
        private final Ties ties;
        private final Mountains mountains;
        final int[] mountainOf = new int[DAYS];
        final int[] shades = new int[DAYS * HOURS * STUFFS];

        Days(Lines lines, Ties ties, Mountains mountains) {
            this.lines = lines;
            this.ties = ties;
            this.mountains = mountains;
            Arrays.fill(mountainOf, UNSET);
        }

        int shadeAt(int day, int hour, int stuff) {
            return (day * HOURS + hour) * STUFFS + stuff;
        }

        /** Only for a line that is tied. */
        int hourOf(int line) {
            int toFirst = gapsTo(line, 0);
            int toLast = gapsTo(line, 1);
            if (toFirst == toLast) return EITHER_HOUR;
            return toFirst < toLast ? 0 : 1;
        }

        private int gapsTo(int line, int hour) {
            int sum = 0;
            for (int stuff = 0; stuff < STUFFS; stuff++) {
                sum += lines.glassGapTo(line, stuff, shades[shadeAt(ties.dayOf[line], hour, stuff)]);
            }
            return sum;
        }

        /** Only for a day that has a mountain. */
        int waysOf(int day, int hour) {
            int bits = 0;
            for (int line = 0; line < ALL_INCHES; line++) {
                if (ties.dayOf[line] != day) continue;
                int of = hourOf(line);
                if (of != hour && of != EITHER_HOUR) continue;
                int to = mountains.wayTo(mountainOf[day], line / INCHES);
                if (to != NONE) bits |= 1 << to;
            }
            return bits;
        }
    }

    /** Steps from an inch to what is younger for sure. */
    private static final class Steps {
        private static final int NOT = 0, AS_OLD = 1, YOUNGER = 2;

        private final Ties ties;
        private final int[] mark = new int[ALL_INCHES];
        private final int[] dayMark = new int[DAYS];
        private boolean moved;

        Steps(Ties ties) {
            this.ties = ties;
        }

        /** Whether steps lead to the other inch, one of them at least up a core: ties alone keep the age. */
        boolean lead(int one, int other) {
            if (ties.isSunk[one] || ties.isSunk[other]) return false;
            Arrays.fill(mark, NOT);
            Arrays.fill(dayMark, NOT);
            mark[one] = AS_OLD;
            // Marks only pass along, through each day once at most, so a few turns are enough.
            for (int turn = 0; turn < TURNS; turn++) {
                moved = false;
                for (int core = 0; core < CORES; core++) markUp(core * INCHES);
                markTies();
                if (!moved) break;
            }
            return mark[other] == YOUNGER;
        }

        private void markUp(int top) {
            boolean below = false;
            for (int line = top + INCHES - 1; line >= top; line--) {
                if (ties.isSunk[line]) continue;
                if (below) put(line, YOUNGER);
                if (mark[line] != NOT) below = true;
            }
        }

        private void markTies() {
            for (int line = 0; line < ALL_INCHES; line++) {
                if (!ties.isOrdering(line)) continue;
                int day = ties.dayOf[line];
                put(line, dayMark[day]);
                if (mark[line] > dayMark[day]) {
                    dayMark[day] = mark[line];
                    moved = true;
                }
            }
        }

        private void put(int line, int v) {
            if (v <= mark[line]) return;
            mark[line] = v;
            moved = true;
        }
    }

    /** What looking at cores finds and costs. */
    private static final class Search {
        /** All odds are told by this one number, so that they can be added and compared. */
        static final int WHOLE = 1000000;

        private final int[] finds = new int[CORES * DAYS];
        private final int[] costs = new int[CORES];

        int tell(int core, int what, int v) {
            int was;
            if (what == DAYS) {
                was = costs[core];
                costs[core] = v;
            } else {
                was = finds[core * DAYS + what];
                finds[core * DAYS + what] = v;
            }
            return was;
        }

        int worthOf(int cores) {
            int sum = 0;
            for (int day = 0; day < DAYS; day++) {
                int missed = 1;
                for (int core = 0; core < CORES; core++) {
                    boolean looks = (cores >> core & 1) != 0;
                    missed *= looks ? TENTHS - finds[core * DAYS + day] : TENTHS;
                }
                sum += WHOLE - missed;
            }
            return sum;
        }

        int costOf(int cores) {
            int sum = 0;
            for (int core = 0; core < CORES; core++) {
                if ((cores >> core & 1) != 0) sum += costs[core];
            }
            return sum;
        }

        int bestFor(int purse) {
            int best = 0;
            int bestWorth = 0;
            int bestCost = 0;
            for (int set = 1; set < 1 << CORES; set++) {
                int cost = costOf(set);
                if (cost > purse) continue;
                int gets = worthOf(set);
                if (gets > bestWorth || gets == bestWorth && cost < bestCost) {
                    best = set;
                    bestWorth = gets;
                    bestCost = cost;
                }
            }
            return best;
        }
    }
}
