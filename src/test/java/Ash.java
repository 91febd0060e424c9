import java.lang.reflect.Method;
import java.util.ArrayList;
import java.util.HashMap;
import java.util.List;
import java.util.Map;

/**
 * One object of the program and all that was asked of it, in calls written as texts: "piece 0 0 50 53".
 * What was asked can be asked again of a new object: so it is seen whether a refused call left a trace.
 */
final class Ash {
    static final int NONE = -6, UNKNOWN = -1, OUTSIDE = -2, STATE = -3, FULL = -4, NO = -5;
    static final long GONE = -1000000;
    static final long LOST = -1000000000000000000L;
    static final int LEAST = Integer.MIN_VALUE, MOST = Integer.MAX_VALUE;

    /** The document promises nothing after these. */
    static final int CALLS = 512;

    private static final Map<String, Method> METHODS = new HashMap<>();
    private static final Map<String, Object[]> ARGUMENTS = new HashMap<>();

    private final Check check;
    private final String test;
    private final AshLines object = new AshLines();
    private final List<String> asked = new ArrayList<>();

    /** A new object, for a test that names the promise and what of it is held. */
    Ash(Check check, String test) {
        this.check = check;
        this.test = test;
        check.begins(test);
    }

    /** Calls that must not be refused; what else they answer is no matter here. */
    Ash tell(String... calls) {
        for (String call : calls) {
            long got = ask(call);
            check.so(test + ": " + call + " is not refused, but answered " + got, got >= 0 || got == NONE);
        }
        return this;
    }

    Ash tell(int times, String call) {
        for (int i = 0; i < times; i++) tell(call);
        return this;
    }

    /** No slack, and leans of 0 for house 0: what it reads is what is true. */
    Ash sharp() {
        return tell("slack 0", "piece 0 0 50 50", "piece 0 1 50 50", "piece 0 2 50 50");
    }

    /** One grain of 50, 50, 50 by house 0 in each of these lines. */
    Ash lines(int... lines) {
        for (int line : lines) tell("grain " + line / 24 + " " + line % 24 + " 0 50 50 50");
        return this;
    }

    /** Says each sign of a text. */
    Ash say(String text) {
        for (int i = 0; i < text.length(); i++) tell("say " + (int) text.charAt(i));
        return this;
    }

    /** Makes a text the rule. */
    Ash rule(String text) {
        return tell("wipe").say(text).tell("rule");
    }

    /** A call and the answer that is due. */
    Ash is(String call, long due) {
        check.due(test + ": " + call, ask(call), due);
        return this;
    }

    /** Calls that all have one answer. */
    Ash are(long due, String... calls) {
        for (String call : calls) is(call, due);
        return this;
    }

    /** A call that is refused, and leaves everything as it was. */
    Ash refuses(String call, long due) {
        String trace = Trace.of(asked, List.of(call));
        check.so(test + ": refused " + call + " changes nothing, but then " + trace, trace.isEmpty());
        return is(call, due);
    }

    List<String> asked() {
        return asked;
    }

    private long ask(String call) {
        asked.add(call);
        check.so(test + ": a test asks no more than is promised", asked.size() <= CALLS);
        return ask(object, call);
    }

    static long ask(Object of, String call) {
        String name = nameOf(call);
        String key = of.getClass().getName() + "." + name;
        Method method = METHODS.computeIfAbsent(key, k -> Calls.method(of.getClass(), name));
        return Calls.answer(of, method, ARGUMENTS.computeIfAbsent(call, Ash::argumentsOf));
    }

    static String nameOf(String call) {
        int end = call.indexOf(' ');
        return end < 0 ? call : call.substring(0, end);
    }

    private static Object[] argumentsOf(String call) {
        String[] parts = call.split(" ");
        Object[] all = new Object[parts.length - 1];
        for (int i = 0; i < all.length; i++) {
            String part = parts[i + 1];
            boolean isTruth = part.equals("true") || part.equals("false");
            if (isTruth) all[i] = part.equals("true");
            else all[i] = Integer.valueOf(part);
        }
        return all;
    }
}
