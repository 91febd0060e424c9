import java.lang.reflect.InvocationTargetException;
import java.lang.reflect.Method;
import java.util.LinkedHashMap;
import java.util.Map;
import java.util.Random;

/** Calls of the face with arguments drawn from a seeded source. */
final class Calls {
    /**
     * What each argument is: h house, s stuff, n number, e end or part, c core, i inch, g grain, l line that may have
     * grains, L any inch, d day, D day or none, m mountain, M mountain or none, a age, w what of 0 and 1, and so on.
     */
    private static final String[] FORMS = {
        "piece hsrr", "round hhsrr", "lean hse", "slack k", "grain cihrrr", "truly gse", "grains l", "glass lse",
        "say t", "wipe", "fault", "rule", "gap llf", "alike ll", "chain lj", "broken",
        "mountain mrrrp", "place wmxx", "weight gm", "whose lme",
        "age wYaa", "tie lD", "sunk lb", "above dd", "untrue", "drop o", "net wYe", "gain l",
        "born dM", "shade desr", "hour l", "way mc", "winds de", "name lN", "several", "called d",
        "first LL", "washed l", "look cqu", "worth ve", "next zw", "told y"
    };

    static final Map<String, String> KINDS = new LinkedHashMap<>();
    static {
        for (String form : FORMS) {
            String[] parts = form.split(" ");
            KINDS.put(parts[0], parts.length == 1 ? "" : parts[1]);
        }
    }

    private static final String[] TESTS = {"a<3", "b<9", "c=0", "g>1", "y=0", "y<50", "a>0", "g<3", "b=1", "c<20", "g=1", "a<100"};
    private static final int[] WILD = {
        Integer.MIN_VALUE, Integer.MIN_VALUE + 1, -1000000, -10, -3, -2, -1, 3, 4, 5, 6, 7, 8, 10, 11, 19, 20, 21, 24, 30,
        50, 60, 64, 99, 100, 144, 600, 601, 9999, 10000, 1000000, Integer.MAX_VALUE - 1, Integer.MAX_VALUE
    };

    private final Random random;
    private final double wild;
    private final int[] cores;
    private final int[] inches;
    private final int dayCount;
    private String saying = "";

    Calls(long seed, double wild) {
        random = new Random(seed);
        this.wild = wild;
        cores = some(1 + random.nextInt(6), 6);
        inches = some(1 + random.nextInt(8), 24);
        dayCount = 1 + random.nextInt(10);
    }

    private int[] some(int count, int of) {
        int[] all = new int[count];
        for (int i = 0; i < count; i++) {
            // The first and the last one more often than others: faults like to sit there.
            int rim = random.nextInt(6);
            all[i] = rim == 0 ? 0 : rim == 1 ? of - 1 : random.nextInt(of);
        }
        return all;
    }

    private int one(int[] of) {
        return of[random.nextInt(of.length)];
    }

    Object[] argumentsOf(String name) {
        String kinds = KINDS.get(name);
        Object[] all = new Object[kinds.length()];
        for (int i = 0; i < all.length; i++) {
            char kind = kinds.charAt(i);
            if (kind == 'b') all[i] = random.nextBoolean();
            else if (random.nextDouble() < wild) all[i] = one(WILD);
            else all[i] = plain(kind, i > 0 ? all[0] : null);
        }
        return all;
    }

    private int plain(char kind, Object ahead) {
        switch (kind) {
            case 'h': case 's': return random.nextInt(3);
            case 'r': return 48 + random.nextInt(6) + (random.nextInt(12) == 0 ? random.nextInt(40) - 20 : 0);
            case 'e': case 'w': return random.nextInt(2);
            case 'k': return random.nextInt(4);
            case 'c': return one(cores);
            case 'i': return one(inches);
            case 'g': return random.nextInt(random.nextBoolean() ? 10 : 60);
            case 'l': return 24 * one(cores) + one(inches);
            case 'L': return random.nextBoolean() ? 24 * one(cores) + one(inches) : 24 * one(cores) + random.nextInt(24);
            case 'f': return random.nextInt(4);
            case 'j': return random.nextInt(7) - 2;
            case 't': return nextSign();
            case 'm': return random.nextInt(6);
            case 'M': return random.nextInt(7) - 1;
            case 'p': return random.nextInt(6);
            case 'x': return random.nextInt(3) == 0 ? random.nextInt(21) : 8 + random.nextInt(5);
            case 'Y': return ahead instanceof Integer what && what == 0 ? random.nextInt(dayCount) : plain('L', null);
            case 'a': return random.nextInt(4) == 0 ? random.nextInt(10000) : random.nextBoolean() ? random.nextInt(300) : 9000 + random.nextInt(1000);
            case 'd': return random.nextInt(dayCount);
            case 'D': return random.nextInt(8) == 0 ? -1 : random.nextInt(dayCount);
            case 'o': return random.nextBoolean() ? random.nextInt(2) : 10 + random.nextInt(10);
            case 'N': return random.nextInt(5) - 1;
            case 'q': return random.nextInt(11);
            case 'u': return random.nextInt(11);
            case 'v': return random.nextInt(64);
            case 'z': return random.nextInt(40);
            case 'y': return random.nextInt(8);
            default: throw new IllegalArgumentException("kind " + kind);
        }
    }

    /** Mostly rules that are whole, sign by sign; now and then a sign that is anything. */
    private int nextSign() {
        if (random.nextInt(40) == 0) return 33 + random.nextInt(94);
        if (saying.isEmpty()) saying = one(TESTS.length) + (random.nextBoolean() ? "&" : random.nextBoolean() ? "|" : "");
        char sign = saying.charAt(0);
        saying = saying.substring(1);
        return sign;
    }

    private String one(int bound) {
        return TESTS[random.nextInt(bound)];
    }

    /** Signs of a rule that is whole. */
    String wholeRule() {
        StringBuilder text = new StringBuilder(one(TESTS.length));
        for (int more = random.nextInt(4); more > 0; more--) {
            text.append(random.nextBoolean() ? '&' : '|').append(one(TESTS.length));
        }
        return text.toString();
    }

    int below(int bound) {
        return random.nextInt(bound);
    }

    static Method method(Class<?> of, String name) {
        for (Method m : of.getDeclaredMethods()) {
            if (!m.getName().equals(name) || !java.lang.reflect.Modifier.isPublic(m.getModifiers())) continue;
            m.setAccessible(true);
            return m;
        }
        throw new IllegalArgumentException("no method " + name);
    }

    static long answer(Object of, Method m, Object[] arguments) {
        try {
            return ((Number) m.invoke(of, arguments)).longValue();
        } catch (IllegalAccessException e) {
            throw new IllegalStateException(e);
        } catch (InvocationTargetException e) {
            throw new IllegalStateException(m.getName() + java.util.Arrays.toString(arguments), e.getCause());
        }
    }
}
