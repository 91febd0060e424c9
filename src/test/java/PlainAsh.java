import java.math.BigInteger;
import java.util.ArrayList;
import java.util.Arrays;
import java.util.BitSet;
import java.util.HashMap;
import java.util.HashSet;
import java.util.List;
import java.util.Map;
import java.util.Set;
import java.util.TreeMap;
import java.util.TreeSet;
import java.util.regex.Matcher;
import java.util.regex.Pattern;

/**
 * The document once more, slow and plain, to hold the program's answers against. It goes other ways on purpose:
 * leans by trying all of them, ages by what can be reached, rules by a regular expression, odds by big numbers.
 */
public final class PlainAsh {
    private static final int NONE = -6, UNKNOWN = -1, OUTSIDE = -2, STATE = -3, FULL = -4, NO = -5;
    private static final long LOST = -1000000000000000000L;
    private static final int GONE = -1000000;

    private record Bound(int house, int other, int stuff, int least, int most) { }

    private record Grain(int line, int house, int[] reading) { }

    private record Span(int least, int most) {
        int gap(Span o) {
            if (Math.max(least, o.least) <= Math.min(most, o.most)) return 0;
            Span greater = least > o.least ? this : o;
            Span lesser = greater == this ? o : this;
            return greater.least - lesser.most;
        }

        boolean holds(Span o) {
            return least <= o.least && o.most <= most;
        }
    }

    private final List<Bound> bounds = new ArrayList<>();
    private final Map<Integer, Span[]> leanSpans = new HashMap<>();
    private int slack = 1;
    private final List<Grain> grains = new ArrayList<>();
    private String signs = "";
    private String rule = null;
    private final Map<Integer, int[]> mountains = new TreeMap<>();
    private final int[][][] places = new int[2][6][2];
    private final Map<Integer, Span> dayYears = new HashMap<>();
    private final Map<Integer, Span> inchAges = new HashMap<>();
    private final TreeMap<Integer, Integer> ties = new TreeMap<>();
    private final Set<Integer> sunk = new HashSet<>();
    private final Map<Integer, Integer> born = new HashMap<>();
    private final int[][][] shades = new int[10][2][3];
    private final Map<Integer, Integer> names = new HashMap<>();
    private final int[][] looks = new int[6][11];

    private static boolean in(int v, int least, int most) {
        return least <= v && v <= most;
    }

    // ---- 1

    private Span[] solve(int stuff, List<Bound> all) {
        int[] least = {99, 99, 99};
        int[] most = {-99, -99, -99};
        int[] at = new int[3];
        for (at[0] = -9; at[0] <= 9; at[0]++) {
            for (at[1] = -9; at[1] <= 9; at[1]++) {
                for (at[2] = -9; at[2] <= 9; at[2]++) {
                    boolean fits = true;
                    for (Bound b : all) {
                        if (b.stuff != stuff) continue;
                        int v = at[b.house] - (b.other < 0 ? 0 : at[b.other]);
                        if (!in(v, b.least, b.most)) fits = false;
                    }
                    if (!fits) continue;
                    for (int h = 0; h < 3; h++) {
                        least[h] = Math.min(least[h], at[h]);
                        most[h] = Math.max(most[h], at[h]);
                    }
                }
            }
        }
        if (least[0] > most[0]) return null;
        Span[] spans = new Span[3];
        for (int h = 0; h < 3; h++) spans[h] = new Span(least[h], most[h]);
        return spans;
    }

    private int take(Bound b) {
        if (bounds.size() == 30) return FULL;
        List<Bound> with = new ArrayList<>(bounds);
        with.add(b);
        Span[] spans = solve(b.stuff, with);
        if (spans == null) return NO;
        bounds.add(b);
        leanSpans.put(b.stuff, spans);
        return bounds.size();
    }

    private Span leanOf(int house, int stuff) {
        Span[] spans = leanSpans.get(stuff);
        return spans == null ? new Span(-9, 9) : spans[house];
    }

    public int piece(int house, int stuff, int known, int read) {
        if (!in(house, 0, 2)) return UNKNOWN;
        if (!in(stuff, 0, 2) || !in(known, 0, 99) || !in(read, 0, 99)) return OUTSIDE;
        return take(new Bound(house, -1, stuff, read - known - slack, read - known + slack));
    }

    public int round(int house, int other, int stuff, int read, int by) {
        if (!in(house, 0, 2) || !in(other, 0, 2) || house == other) return UNKNOWN;
        if (!in(stuff, 0, 2) || !in(read, 0, 99) || !in(by, 0, 99)) return OUTSIDE;
        return take(new Bound(house, other, stuff, read - by - 2 * slack, read - by + 2 * slack));
    }

    public int lean(int house, int stuff, int end) {
        if (!in(house, 0, 2)) return GONE - 1;
        if (!in(stuff, 0, 2) || !in(end, 0, 1)) return GONE - 2;
        return end == 0 ? leanOf(house, stuff).least : leanOf(house, stuff).most;
    }

    public int slack(int v) {
        if (!in(v, 0, 3)) return OUTSIDE;
        int was = slack;
        slack = v;
        return was;
    }

    public int grain(int core, int inch, int house, int a, int b, int c) {
        if (!in(core, 0, 5) || !in(inch, 0, 23) || !in(house, 0, 2)) return UNKNOWN;
        if (!in(a, 0, 99) || !in(b, 0, 99) || !in(c, 0, 99)) return OUTSIDE;
        if (grains.size() == 60) return FULL;
        grains.add(new Grain(24 * core + inch, house, new int[] {a, b, c}));
        return grains.size() - 1;
    }

    private Span trueOf(Grain g, int stuff) {
        Span lean = leanOf(g.house, stuff);
        return new Span(g.reading[stuff] - lean.most - slack, g.reading[stuff] - lean.least + slack);
    }

    public int truly(int grain, int stuff, int end) {
        if (!in(grain, 0, grains.size() - 1)) return GONE - 1;
        if (!in(stuff, 0, 2) || !in(end, 0, 1)) return GONE - 2;
        Span t = trueOf(grains.get(grain), stuff);
        return end == 0 ? t.least : t.most;
    }

    private List<Grain> grainsOf(int line) {
        List<Grain> all = new ArrayList<>();
        for (Grain g : grains) if (g.line == line) all.add(g);
        return all;
    }

    private TreeSet<Integer> lines() {
        TreeSet<Integer> all = new TreeSet<>();
        for (Grain g : grains) all.add(g.line);
        return all;
    }

    private boolean isLine(int line) {
        return lines().contains(line);
    }

    public int grains(int line) {
        return in(line, 0, 143) ? grainsOf(line).size() : UNKNOWN;
    }

    private Span glassOf(int line, int stuff) {
        TreeSet<Integer> ends = new TreeSet<>();
        for (Grain g : grainsOf(line)) {
            ends.add(trueOf(g, stuff).least);
            ends.add(trueOf(g, stuff).most);
        }
        return new Span(ends.first(), ends.last());
    }

    public int glass(int line, int stuff, int end) {
        if (!isLine(line)) return GONE - 1;
        if (!in(stuff, 0, 2) || !in(end, 0, 1)) return GONE - 2;
        return end == 0 ? glassOf(line, stuff).least : glassOf(line, stuff).most;
    }

    // ---- 2

    private static final Pattern RULE = Pattern.compile("[gabcy][<>=][0-9]{1,3}([&|][gabcy][<>=][0-9]{1,3})*");

    public int say(int sign) {
        if (!in(sign, 33, 126)) return OUTSIDE;
        if (signs.length() == 50) return FULL;
        signs += (char) sign;
        return signs.length();
    }

    public int wipe() {
        int was = signs.length();
        signs = "";
        return was;
    }

    public int fault() {
        for (int i = 1; i <= signs.length(); i++) {
            Matcher m = RULE.matcher(signs.substring(0, i));
            if (!m.matches() && !m.hitEnd()) return i - 1;
        }
        return RULE.matcher(signs).matches() ? NONE : signs.length();
    }

    public int rule() {
        if (fault() != NONE) return NO;
        rule = signs;
        signs = "";
        return boths();
    }

    private int boths() {
        return rule == null ? 0 : rule.split("[|]").length;
    }

    private boolean areLines(int line, int other) {
        return isLine(line) && isLine(other) && line != other;
    }

    public int gap(int line, int other, int what) {
        if (!areLines(line, other)) return UNKNOWN;
        if (!in(what, 0, 3)) return OUTSIDE;
        if (what < 3) return glassOf(line, what).gap(glassOf(other, what));
        Span[] net = netWithout(-1);
        return net == null ? NO : net[line].gap(net[other]);
    }

    private boolean isAlike(int line, int other, Span[] net) {
        for (String both : rule.split("[|]")) {
            boolean so = true;
            for (String test : both.split("&")) so &= isSo(test, line, other, net);
            if (so) return true;
        }
        return false;
    }

    private boolean isSo(String test, int line, int other, Span[] net) {
        char fact = test.charAt(0);
        int v = fact == 'g' ? Math.min(grainsOf(line).size(), grainsOf(other).size())
            : fact == 'y' ? net[line].gap(net[other])
            : glassOf(line, fact - 'a').gap(glassOf(other, fact - 'a'));
        int by = Integer.parseInt(test.substring(2));
        return test.charAt(1) == '<' ? v < by : test.charAt(1) == '>' ? v > by : v == by;
    }

    private int ruleRefusal() {
        if (rule == null) return STATE;
        return rule.indexOf('y') >= 0 && netWithout(-1) == null ? NO : 0;
    }

    public int alike(int line, int other) {
        if (!areLines(line, other)) return UNKNOWN;
        if (ruleRefusal() != 0) return ruleRefusal();
        return isAlike(line, other, netWithout(-1)) ? 1 : 0;
    }

    /** For each line the set that it shares with all of its chain. */
    private Map<Integer, TreeSet<Integer>> chains() {
        Map<Integer, TreeSet<Integer>> of = new TreeMap<>();
        for (int line : lines()) of.put(line, new TreeSet<>(Set.of(line)));
        Span[] net = netWithout(-1);
        for (int line : lines()) {
            for (int other : lines().headSet(line)) {
                if (of.get(line) == of.get(other) || !isAlike(line, other, net)) continue;
                TreeSet<Integer> joined = of.get(line);
                joined.addAll(of.get(other));
                for (int member : joined) of.put(member, joined);
            }
        }
        return of;
    }

    public int chain(int line, int i) {
        if (!isLine(line)) return UNKNOWN;
        if (ruleRefusal() != 0) return ruleRefusal();
        List<Integer> all = new ArrayList<>(chains().get(line));
        if (i == -1) return all.size();
        return in(i, 0, all.size() - 1) ? all.get(i) : NONE;
    }

    public int broken() {
        if (ruleRefusal() != 0) return ruleRefusal();
        Span[] net = netWithout(-1);
        int count = 0;
        Map<Integer, TreeSet<Integer>> of = chains();
        for (int line : lines()) {
            boolean broken = false;
            for (int a : of.get(line)) {
                for (int b : of.get(line)) if (a < b && !isAlike(a, b, net)) broken = true;
            }
            if (broken) count++;
        }
        return count;
    }

    // ---- 3

    public int mountain(int m, int a, int b, int c, int wander) {
        if (!in(m, 0, 5)) return UNKNOWN;
        if (!in(a, 0, 99) || !in(b, 0, 99) || !in(c, 0, 99) || !in(wander, 0, 5)) return OUTSIDE;
        return mountains.put(m, new int[] {a, b, c, wander}) == null ? 1 : 0;
    }

    public int place(int what, int i, int x, int y) {
        if (!in(what, 0, 1)) return OUTSIDE;
        if (!in(i, 0, 5)) return UNKNOWN;
        if (!in(x, 0, 20) || !in(y, 0, 20)) return OUTSIDE;
        int[] was = places[what][i];
        places[what][i] = new int[] {x, y};
        return 100 * was[0] + was[1];
    }

    private int weightOf(Grain g, int[] mountain) {
        int product = 1;
        for (int s = 0; s < 3; s++) {
            Span t = trueOf(g, s);
            int together = t.least + t.most;
            int twice = 2 * mountain[s];
            int off = (together > twice ? together - twice : twice - together) / 2 - mountain[3];
            if (off < 0) off = 0;
            int w = 9 - off;
            if (w < 0) w = 0;
            product *= w;
        }
        return product;
    }

    public int weight(int grain, int mountain) {
        if (!in(grain, 0, grains.size() - 1) || !mountains.containsKey(mountain)) return UNKNOWN;
        return weightOf(grains.get(grain), mountains.get(mountain));
    }

    private static long part(BigInteger upper, BigInteger lower, int part) {
        if (upper.signum() == 0) return part == 0 ? 0 : 1;
        BigInteger g = upper.gcd(lower);
        return (part == 0 ? upper : lower).divide(g).longValueExact();
    }

    public long whose(int line, int mountain, int part) {
        if (!isLine(line) || !mountains.containsKey(mountain)) return LOST - 1;
        if (!in(part, 0, 1)) return LOST - 2;
        BigInteger sum = BigInteger.ZERO;
        BigInteger own = BigInteger.ZERO;
        for (Map.Entry<Integer, int[]> m : mountains.entrySet()) {
            BigInteger product = BigInteger.ONE;
            List<Grain> of = grainsOf(line);
            for (Grain g : of.subList(0, Math.min(5, of.size()))) {
                product = product.multiply(BigInteger.valueOf(weightOf(g, m.getValue())));
            }
            sum = sum.add(product);
            if (m.getKey() == mountain) own = product;
        }
        return part(own, sum, part);
    }

    // ---- 4

    public int age(int what, int i, int least, int greatest) {
        if (!in(what, 0, 1)) return OUTSIDE;
        if (!in(i, 0, what == 0 ? 9 : 143)) return UNKNOWN;
        if (!in(least, 0, 9999) || !in(greatest, 0, 9999) || least > greatest) return OUTSIDE;
        (what == 0 ? dayYears : inchAges).put(i, new Span(least, greatest));
        return 1;
    }

    public int tie(int line, int day) {
        if (!isLine(line) || !in(day, -1, 9)) return UNKNOWN;
        Integer was = day < 0 ? ties.remove(line) : ties.put(line, day);
        return was == null ? NONE : was;
    }

    public int sunk(int line, boolean is) {
        if (!isLine(line)) return UNKNOWN;
        boolean changed = is ? sunk.add(line) : sunk.remove(line);
        return changed == is ? 0 : 1;
    }

    private List<Integer> afloat() {
        List<Integer> all = new ArrayList<>();
        for (int line : ties.keySet()) if (!sunk.contains(line)) all.add(line);
        return all;
    }

    private boolean isAbove(int day, int other, List<Integer> by) {
        for (int a : by) {
            for (int b : by) {
                if (a / 24 == b / 24 && a < b && ties.get(a) == day && ties.get(b) == other) return true;
            }
        }
        return false;
    }

    private int untrueBy(List<Integer> by) {
        boolean[][] above = new boolean[10][10];
        for (int a : by) {
            for (int b : by) if (a / 24 == b / 24 && a < b) above[ties.get(a)][ties.get(b)] = true;
        }
        int bits = 0;
        for (int day = 0; day < 10; day++) {
            boolean[] seen = new boolean[10];
            reach(day, above, seen);
            if (seen[day]) bits |= 1 << day;
        }
        return bits;
    }

    private static void reach(int day, boolean[][] above, boolean[] seen) {
        for (int d = 0; d < 10; d++) {
            if (above[day][d] && !seen[d]) {
                seen[d] = true;
                reach(d, above, seen);
            }
        }
    }

    public int above(int day, int other) {
        if (!in(day, 0, 9) || !in(other, 0, 9)) return UNKNOWN;
        return isAbove(day, other, afloat()) ? 1 : 0;
    }

    public int untrue() {
        return untrueBy(afloat());
    }

    public int drop(int what) {
        if (!in(what, 0, 1) && !in(what, 10, 19)) return OUTSIDE;
        List<Integer> all = afloat();
        if (what >= 10) return what - 10 < all.size() ? all.get(what - 10) : NONE;
        int best = -1;
        int count = 99;
        for (int set = 0; set < 1 << Math.min(10, all.size()); set++) {
            if (Integer.bitCount(set) >= count) continue;
            List<Integer> left = new ArrayList<>();
            for (int i = 0; i < all.size(); i++) if (i >= 10 || (set & 1 << i) == 0) left.add(all.get(i));
            if (untrueBy(left) != 0) continue;
            best = set;
            count = Integer.bitCount(set);
        }
        return best < 0 ? NO : what == 0 ? best : count;
    }

    /** Spans of 144 inches and 10 days, or null for a clash. */
    private Span[] netWithout(int line) {
        BitSet[] older = new BitSet[154];
        for (int i = 0; i < 154; i++) {
            older[i] = new BitSet();
            older[i].set(i);
            if (i >= 144 || sunk.contains(i)) continue;
            for (int j = i + 1; j < 24 * (i / 24 + 1); j++) if (!sunk.contains(j)) older[i].set(j);
        }
        for (int tied : afloat()) {
            if (tied == line) continue;
            older[tied].set(144 + ties.get(tied));
            older[144 + ties.get(tied)].set(tied);
        }
        for (int by = 0; by < 154; by++) {
            for (int i = 0; i < 154; i++) if (older[i].get(by)) older[i].or(older[by]);
        }
        int[] least = new int[154];
        int[] most = new int[154];
        Arrays.fill(most, 9999);
        for (int i = 0; i < 154; i++) {
            Span own = toldOf(i);
            for (int j = older[i].nextSetBit(0); j >= 0; j = older[i].nextSetBit(j + 1)) {
                least[j] = Math.max(least[j], own.least);
                most[i] = Math.min(most[i], toldOf(j).most);
            }
        }
        Span[] net = new Span[154];
        for (int i = 0; i < 154; i++) {
            if (least[i] > most[i]) return null;
            net[i] = new Span(least[i], most[i]);
        }
        return net;
    }

    private Span toldOf(int knot) {
        Span told = knot < 144 ? inchAges.get(knot) : dayYears.get(knot - 144);
        return told == null ? new Span(0, 9999) : told;
    }

    public int net(int what, int i, int end) {
        if (!in(what, 0, 1)) return OUTSIDE;
        if (!in(i, 0, what == 0 ? 9 : 143)) return UNKNOWN;
        if (!in(end, 0, 1)) return OUTSIDE;
        Span[] net = netWithout(-1);
        if (net == null) return NO;
        Span of = net[what == 0 ? 144 + i : i];
        return end == 0 ? of.least : of.most;
    }

    public int gain(int line) {
        if (!ties.containsKey(line) || sunk.contains(line)) return UNKNOWN;
        Span[] with = netWithout(-1);
        Span[] without = netWithout(line);
        if (with == null || without == null) return NO;
        int sum = 0;
        for (int i = line / 24 * 24; i < line / 24 * 24 + 24; i++) {
            sum += without[i].most - without[i].least - (with[i].most - with[i].least);
        }
        return sum;
    }

    // ---- 5

    public int born(int day, int mountain) {
        if (!in(day, 0, 9) || mountain != -1 && !mountains.containsKey(mountain)) return UNKNOWN;
        Integer was = mountain < 0 ? born.remove(day) : born.put(day, mountain);
        return was == null ? NONE : was;
    }

    public int shade(int day, int hour, int stuff, int v) {
        if (!in(day, 0, 9)) return UNKNOWN;
        if (!in(hour, 0, 1) || !in(stuff, 0, 2) || !in(v, 0, 99)) return OUTSIDE;
        int was = shades[day][hour][stuff];
        shades[day][hour][stuff] = v;
        return was;
    }

    public int hour(int line) {
        if (!ties.containsKey(line)) return UNKNOWN;
        int[] sum = new int[2];
        for (int hour = 0; hour < 2; hour++) {
            for (int s = 0; s < 3; s++) {
                int v = shades[ties.get(line)][hour][s];
                sum[hour] += glassOf(line, s).gap(new Span(v, v));
            }
        }
        return sum[0] < sum[1] ? 0 : sum[0] > sum[1] ? 1 : 2;
    }

    public int way(int mountain, int core) {
        if (!mountains.containsKey(mountain) || !in(core, 0, 5)) return UNKNOWN;
        int dx = places[1][core][0] - places[0][mountain][0];
        int dy = places[1][core][1] - places[0][mountain][1];
        if (dx == 0 && dy == 0) return NONE;
        int signX = Math.abs(dy) > 2 * Math.abs(dx) ? 0 : Integer.signum(dx);
        int signY = Math.abs(dx) > 2 * Math.abs(dy) ? 0 : Integer.signum(dy);
        // Rows from north to south, columns from west to east.
        return new int[][] {{7, 0, 1}, {6, NONE, 2}, {5, 4, 3}}[signY + 1][signX + 1];
    }

    public int winds(int day, int hour) {
        if (!in(day, 0, 9)) return UNKNOWN;
        if (!in(hour, 0, 1)) return OUTSIDE;
        if (!born.containsKey(day)) return STATE;
        int bits = 0;
        for (int line : ties.keySet()) {
            if (ties.get(line) != day) continue;
            int way = way(born.get(day), line / 24);
            if (way != NONE && hour(line) != 1 - hour) bits |= 1 << way;
        }
        return bits;
    }

    public int name(int line, int name) {
        if (!isLine(line) || !in(name, -1, 7)) return UNKNOWN;
        Integer was = name < 0 ? names.remove(line) : names.put(line, name);
        return was == null ? NONE : was;
    }

    public int several() {
        int bits = 0;
        for (int a : ties.keySet()) {
            for (int b : ties.keySet()) {
                if (names.get(a) == null || !names.get(a).equals(names.get(b))) continue;
                if (!ties.get(a).equals(ties.get(b))) bits |= 1 << names.get(a);
            }
        }
        return bits;
    }

    public int called(int day) {
        if (!in(day, 0, 9)) return UNKNOWN;
        Set<Integer> all = new HashSet<>();
        for (int line : ties.keySet()) if (ties.get(line) == day && names.containsKey(line)) all.add(names.get(line));
        return all.size();
    }

    // ---- 6

    private void walk(int inch, int climbed, boolean[][] seen) {
        if (seen[inch][climbed]) return;
        seen[inch][climbed] = true;
        if (sunk.contains(inch)) return;
        for (int i = inch / 24 * 24; i < inch; i++) if (!sunk.contains(i)) walk(i, 1, seen);
        if (!ties.containsKey(inch)) return;
        for (int i : afloat()) if (ties.get(i).equals(ties.get(inch))) walk(i, climbed, seen);
    }

    private boolean isOlder(int one, int other, Span[] net) {
        if (net[one].least > net[other].most) return true;
        boolean[][] seen = new boolean[144][2];
        walk(one, 0, seen);
        return seen[other][1];
    }

    public int first(int one, int other) {
        if (!in(one, 0, 143) || !in(other, 0, 143) || one == other) return UNKNOWN;
        Span[] net = netWithout(-1);
        if (net == null || untrue() != 0) return NO;
        return (isOlder(one, other, net) ? 1 : 0) + (isOlder(other, one, net) ? 2 : 0);
    }

    public int washed(int line) {
        if (!isLine(line)) return UNKNOWN;
        for (int other : lines()) {
            if (other / 24 != line / 24 || other <= line) continue;
            boolean holds = grainsOf(line).size() < grainsOf(other).size();
            for (int s = 0; s < 3; s++) holds &= glassOf(other, s).holds(glassOf(line, s));
            if (holds) return 1;
        }
        return 0;
    }

    public int look(int core, int what, int v) {
        if (!in(core, 0, 5)) return UNKNOWN;
        if (!in(what, 0, 10) || !in(v, 0, what == 10 ? 99 : 10)) return OUTSIDE;
        int was = looks[core][what];
        looks[core][what] = v;
        return was;
    }

    private BigInteger millionths(int cores) {
        BigInteger sum = BigInteger.ZERO;
        for (int day = 0; day < 10; day++) {
            BigInteger missed = BigInteger.valueOf(1000000);
            for (int core = 0; core < 6; core++) {
                if ((cores & 1 << core) == 0) continue;
                missed = missed.multiply(BigInteger.valueOf(10 - looks[core][day])).divide(BigInteger.TEN);
            }
            sum = sum.add(BigInteger.valueOf(1000000)).subtract(missed);
        }
        return sum;
    }

    public long worth(int cores, int part) {
        if (!in(cores, 0, 63) || !in(part, 0, 1)) return LOST - 2;
        return part(millionths(cores), BigInteger.valueOf(1000000), part);
    }

    private int cost(int cores) {
        int sum = 0;
        for (int core = 0; core < 6; core++) sum += (cores >> core & 1) * looks[core][10];
        return sum;
    }

    public int next(int purse, int what) {
        if (!in(purse, 0, 600) || !in(what, 0, 1)) return OUTSIDE;
        List<Integer> sets = new ArrayList<>();
        for (int set = 0; set < 64; set++) if (cost(set) <= purse) sets.add(set);
        sets.sort((a, b) -> {
            int worth = millionths(b).compareTo(millionths(a));
            if (worth != 0) return worth;
            return cost(a) != cost(b) ? cost(a) - cost(b) : a - b;
        });
        return what == 0 ? sets.get(0) : cost(sets.get(0));
    }

    public int told(int what) {
        int bits = 0;
        for (int m : mountains.keySet()) bits |= 1 << m;
        int[] all = {grains.size(), bounds.size(), signs.length(), slack, ties.size(), bits, boths(), netWithout(-1) == null ? 1 : 0};
        return in(what, 0, 7) ? all[what] : OUTSIDE;
    }
}
