import java.lang.reflect.Method;
import java.util.Arrays;
import java.util.HashMap;
import java.util.Map;

/** Seeded runs of calls: the program's answers must be those of the plain model. */
public final class AgainstPlainTest {
    private static final String[] TELLING = {
        "piece", "round", "slack", "grain", "grain", "grain", "grain", "mountain", "place", "age", "tie", "tie", "tie", "sunk",
        "born", "shade", "shade", "name", "look", "look"
    };

    public static void main(String[] args) {
        int runs = args.length > 1 ? Integer.parseInt(args[1]) : 600;
        long from = args.length > 2 ? Long.parseLong(args[2]) : 1;
        Check check = new Check();
        String[] names = Calls.KINDS.keySet().toArray(new String[0]);
        Map<String, Method> program = new HashMap<>();
        Map<String, Method> model = new HashMap<>();
        for (String name : names) {
            program.put(name, Calls.method(AshLines.class, name));
            model.put(name, Calls.method(PlainAsh.class, name));
        }
        Map<String, Map<Long, Integer>> seen = new HashMap<>();
        for (long seed = from; seed < from + runs && check.isAllRight(); seed++) {
            Calls calls = new Calls(seed, seed % 3 == 0 ? 0.05 : 0.01);
            AshLines x = new AshLines();
            PlainAsh y = new PlainAsh();
            int telling = calls.below(100);
            for (int i = 0; i < 512 && check.isAllRight(); i++) {
                boolean tells = calls.below(100) < telling;
                String name = tells ? TELLING[calls.below(TELLING.length)] : names[calls.below(names.length)];
                if (name.equals("rule") && calls.below(2) == 0) {
                    i += sayRule(x, y, calls.wholeRule());
                }
                Object[] arguments = calls.argumentsOf(name);
                long got = Calls.answer(x, program.get(name), arguments);
                long want = Calls.answer(y, model.get(name), arguments);
                check.due("seed " + seed + " call " + i + " " + name + Arrays.toString(arguments), got, want);
                seen.computeIfAbsent(name, k -> new HashMap<>()).merge(got, 1, Integer::sum);
            }
        }
        texts(check, runs, from);
        if (args.length > 1) seen.forEach((name, answers) -> System.out.println(name + " " + answers.size() + " unlike answers " + first(answers)));
        check.end("AgainstPlainTest");
    }

    /** Texts of few signs, so that many of them are rules up to some place. */
    private static void texts(Check check, int runs, long from) {
        String alphabet = "gabcy<>=&|0123456789dz";
        for (long seed = from; seed < from + runs * 20L && check.isAllRight(); seed++) {
            Calls calls = new Calls(seed, 0);
            AshLines x = new AshLines();
            PlainAsh y = new PlainAsh();
            StringBuilder text = new StringBuilder();
            int length = calls.below(53);
            while (text.length() < length) {
                if (calls.below(15) == 0) text.append(alphabet.charAt(calls.below(alphabet.length())));
                else text.append(calls.wholeRule()).append(calls.below(2) == 0 ? "&" : calls.below(2) == 0 ? "|" : "");
            }
            text.setLength(length);
            for (int i = 0; i < length; i++) check.due("say", x.say(text.charAt(i)), y.say(text.charAt(i)));
            check.due("fault of " + text, x.fault(), y.fault());
            check.due("rule of " + text, x.rule(), y.rule());
            check.due("signs left of " + text, x.told(2), y.told(2));
        }
    }

    private static String first(Map<Long, Integer> answers) {
        StringBuilder text = new StringBuilder();
        for (long v : new long[] {-1, -2, -3, -4, -5, -6, 0, 1, 2, 3}) {
            if (answers.containsKey(v)) text.append(v).append(" x ").append(answers.get(v)).append("  ");
        }
        return text.toString();
    }

    private static int sayRule(AshLines x, PlainAsh y, String text) {
        x.wipe();
        y.wipe();
        for (int i = 0; i < text.length(); i++) {
            x.say(text.charAt(i));
            y.say(text.charAt(i));
        }
        return text.length() + 1;
    }
}
