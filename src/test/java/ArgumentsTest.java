import java.util.ArrayList;
import java.util.List;
import java.util.Set;
import java.util.TreeSet;

/**
 * Every argument of every call (promises 2 to 43): the last number that is taken and the first that is refused on either
 * side, the least and the greatest int, several refusals at once in their order, and that refused calls change nothing;
 * on an ordinary object, on one where all is full and no rule is, and on one with a clash and untrue days.
 */
public final class ArgumentsTest {
    /**
     * Promise, call, and each argument: how it is refused (A outside, ahead of all; U unknown; O outside; - never), the
     * ends of what is taken or all of it that is to be tried, and after ! what is refused; the ends of int always are.
     * An n stands for how many grains there are.
     */
    private static final String[] TABLE = {
        "2 piece U0..2 O0..2 O0..99 O0..99",
        "3 round U0,1!-1,3 U2!-1,3 O0..2 O0..99 O0..99",
        "3 round U2!-1,3 U0,1!-1,3 O0..2 O0..99 O0..99",
        "4 lean U0..2 O0..2 O0..1",
        "5 slack O0..3",
        "6 grain U0..5 U0..23 U0..2 O0..99 O0..99 O0..99",
        "7 truly U0..n O0..2 O0..1",
        "8 grains U0..143",
        "9 glass U0,143!-1,144,1 O0..2 O0..1",
        "10 say O33..126",
        "11 wipe",
        "12 fault",
        "13 rule",
        "14 gap U0!-1,144,1 U143,30!-1,144,1 O0..3",
        "14 gap U143,30!-1,144,142 U0!-1,144,142 O0..3",
        "15 alike U0!-1,144,1 U143,30!-1,144,1",
        "15 alike U143,30!-1,144,142 U0!-1,144,142",
        "16 chain U0,143!-1,144,1 --2147483648,-2,-1,0,1,60,2147483647",
        "17 broken",
        "18 mountain U0..5 O0..99 O0..99 O0..99 O0..5",
        "19 place A0..1 U0..5 O0..20 O0..20",
        "20 weight U0..n U0,5!-1,6,1",
        "21 whose U0,143!-1,144,1 U0,5!-1,6,1 O0..1",
        "22 age A0!-1,2 U0..9 O0,5000!-1,10000 O5000,9999!-1,10000",
        "22 age A1!-1,2 U0..143 O0,5000!-1,10000 O5000,9999!-1,10000",
        "23 tie U0,143!-1,144,1 U-1..9",
        "24 sunk U0,143!-1,144,1 b",
        "25 above U0..9 U0..9",
        "26 untrue",
        "27 drop O0,1,10,19!-1,2,9,20",
        "28 net A0!-1,2 U0..9 O0..1",
        "28 net A1!-1,2 U0..143 O0..1",
        "29 gain U0,143!-1,144,1,48,31",
        "30 born U0..9 U-1,0,5!-2,6,1",
        "31 shade U0..9 O0..1 O0..2 O0..99",
        "32 hour U0,143,31!-1,144,1,48",
        "33 way U0,5!-1,6,1 U0..5",
        "34 winds U0,9!-1,10 O0..1",
        "35 name U0,143!-1,144,1 U-1..7",
        "36 several",
        "37 called U0..9",
        "38 first U0!-1,144 U143,1!-1,144",
        "38 first U143,1!-1,144 U0!-1,144",
        "39 washed U0,143!-1,144,1",
        "40 look U0..5 O0,9!-1,11 O0..10",
        "40 look U0..5 O10!-1,11 O0..99",
        "41 worth O0..63 O0..1",
        "42 next O0..600 O0..1",
        "43 told O0..7"
    };

    private static final Check check = new Check();

    private record Argument(char refusal, List<String> taken, List<String> refused) { }

    private record Row(String promise, String name, List<Argument> arguments) { }

    public static void main(String[] args) {
        for (List<String> past : List.of(ordinary(), full(), clashing())) {
            int grains = 0;
            for (String call : past) if (call.startsWith("grain ")) grains++;
            for (String text : TABLE) {
                Row row = read(text, grains);
                taken(row, past);
                refused(row, past);
            }
        }
        tableIsWhole();
        check.end("ArgumentsTest");
    }

    // ---- the pasts

    private static List<String> ordinary() {
        List<String> past = new ArrayList<>(List.of(
            "grain 0 0 0 50 50 50", "grain 5 23 2 51 50 49", "grain 1 6 1 50 52 50", "grain 1 7 1 50 50 50", "grain 2 0 0 70 50 50",
            "piece 0 0 50 51", "round 0 1 0 52 51"));
        past.addAll(common());
        for (int sign : new int[] {'a', '<', '9', '|', 'y', '<', '9'}) past.add("say " + sign);
        past.add("rule");
        past.add("say 103");
        return past;
    }

    private static List<String> full() {
        List<String> past = new ArrayList<>();
        int[][] at = {{0, 0}, {5, 23}, {1, 6}, {1, 7}, {2, 0}};
        for (int i = 0; i < 60; i++) past.add("grain " + at[i % 5][0] + " " + at[i % 5][1] + " " + i % 3 + " 50 51 " + i);
        for (int i = 0; i < 30; i++) past.add(i % 2 == 0 ? "piece 0 0 50 51" : "round 1 2 1 50 50");
        past.addAll(common());
        for (int i = 0; i < 50; i++) past.add("say 97");
        return past;
    }

    private static List<String> clashing() {
        List<String> past = ordinary();
        past.addAll(List.of("grain 0 9 0 50 50 50", "tie 9 0", "age 1 100 5 5", "age 1 101 4 4"));
        return past;
    }

    private static List<String> common() {
        return List.of(
            "mountain 0 50 50 50 2", "mountain 5 49 51 50 0", "place 0 0 3 4", "place 1 5 20 20", "tie 0 0", "tie 143 9", "tie 30 3",
            "tie 31 4", "sunk 31 true", "born 0 0", "born 9 5", "shade 0 0 0 50", "shade 9 1 2 50", "age 0 0 100 200", "age 1 30 150 300",
            "name 0 0", "name 143 7", "look 0 0 5", "look 5 9 10", "look 0 10 30", "look 5 10 99");
    }

    // ---- the table

    private static Row read(String text, int grains) {
        String[] parts = text.split(" ");
        List<Argument> arguments = new ArrayList<>();
        for (int i = 2; i < parts.length; i++) arguments.add(argument(parts[i].replace("n", "" + (grains - 1))));
        return new Row(parts[0], parts[1], arguments);
    }

    private static Argument argument(String text) {
        if (text.equals("b")) return new Argument('-', List.of("false", "true"), List.of());
        char refusal = text.charAt(0);
        String[] halves = text.substring(1).split("!");
        if (refusal == '-') return new Argument('-', List.of(halves[0].split(",")), List.of());
        List<String> taken = new ArrayList<>();
        List<String> refused = new ArrayList<>();
        int dots = halves[0].indexOf("..");
        if (dots < 0) {
            taken.addAll(List.of(halves[0].split(",")));
            refused.addAll(List.of(halves[1].split(",")));
        } else {
            int least = Integer.parseInt(halves[0].substring(0, dots));
            int most = Integer.parseInt(halves[0].substring(dots + 2));
            taken.addAll(List.of("" + least, "" + most));
            refused.addAll(List.of("" + (least - 1), "" + (most + 1)));
        }
        refused.addAll(List.of("" + Ash.LEAST, "" + Ash.MOST));
        return new Argument(refusal, taken, refused);
    }

    private static void tableIsWhole() {
        Set<String> missing = new TreeSet<>(Calls.KINDS.keySet());
        Set<Integer> promises = new TreeSet<>();
        for (String text : TABLE) {
            Row row = read(text, 1);
            missing.remove(row.name);
            promises.add(Integer.valueOf(row.promise));
            check.due("arguments of " + row.name, row.arguments.size(), Calls.KINDS.get(row.name).length());
        }
        check.so("calls without a row: " + missing, missing.isEmpty());
        check.due("promises 2 to 43", promises.size(), 42);
    }

    // ---- what is taken

    /** All ends that are taken, with one another: not refused for an argument, and the plain model's answer. */
    private static void taken(Row row, List<String> past) {
        AshLines program = new AshLines();
        PlainAsh model = new PlainAsh();
        for (String call : past) {
            Ash.ask(program, call);
            Ash.ask(model, call);
        }
        for (String call : allTaken(row)) {
            long got = Ash.ask(program, call);
            check.due(row.promise + " " + call, got, Ash.ask(model, call));
            long refusal = got - base(row.name);
            check.so(row.promise + " " + call + " is taken, but answered " + got, refusal != Ash.UNKNOWN && refusal != Ash.OUTSIDE);
        }
    }

    private static List<String> allTaken(Row row) {
        List<String> calls = List.of(row.name);
        for (Argument argument : row.arguments) {
            List<String> longer = new ArrayList<>();
            for (String call : calls) for (String v : argument.taken) longer.add(call + " " + v);
            calls = longer;
        }
        return calls;
    }

    // ---- what is refused

    private static void refused(Row row, List<String> past) {
        AshLines x = new AshLines();
        for (String call : past) Ash.ask(x, call);
        List<String> asked = new ArrayList<>();
        for (int wrong = 1; wrong < 1 << row.arguments.size(); wrong++) {
            for (String call : wrongCalls(row, wrong)) {
                check.due(row.promise + " " + call, Ash.ask(x, call), dueFor(row, wrong));
                asked.add(call);
            }
        }
        check.so("no more calls than are promised", past.size() + asked.size() <= Ash.CALLS);
        int most = 120;
        for (int from = 0; from < asked.size(); from += most) {
            List<String> some = asked.subList(from, Math.min(asked.size(), from + most));
            String trace = Trace.of(past, some);
            check.so(row.promise + " refused calls of " + row.name + " change nothing, but then " + trace, trace.isEmpty());
        }
    }

    /** Calls in which just these arguments are wrong (as bits); each wrong number comes once at least. */
    private static List<String> wrongCalls(Row row, int wrong) {
        List<String> calls = new ArrayList<>();
        int times = 0;
        for (int i = 0; i < row.arguments.size(); i++) {
            if ((wrong >> i & 1) == 0) continue;
            if (row.arguments.get(i).refused.isEmpty()) return calls;
            times = Math.max(times, row.arguments.get(i).refused.size());
        }
        for (int turn = 0; turn < times; turn++) {
            StringBuilder call = new StringBuilder(row.name);
            for (int i = 0; i < row.arguments.size(); i++) {
                Argument argument = row.arguments.get(i);
                List<String> from = (wrong >> i & 1) == 0 ? argument.taken : argument.refused;
                call.append(' ').append(from.get((turn + i * (wrong % 3)) % from.size()));
            }
            calls.add(call.toString());
        }
        return calls;
    }

    private static long dueFor(Row row, int wrong) {
        for (char refusal : new char[] {'A', 'U', 'O'}) {
            for (int i = 0; i < row.arguments.size(); i++) {
                if ((wrong >> i & 1) == 0 || row.arguments.get(i).refusal != refusal) continue;
                return base(row.name) + (refusal == 'U' ? Ash.UNKNOWN : Ash.OUTSIDE);
            }
        }
        return 0;
    }

    private static long base(String name) {
        if (name.equals("lean") || name.equals("truly") || name.equals("glass")) return Ash.GONE;
        return name.equals("whose") || name.equals("worth") ? Ash.LOST : 0;
    }
}
