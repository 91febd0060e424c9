import java.lang.reflect.Method;
import java.util.Arrays;

/** Wild arguments in all states, far beyond the 512 calls: nothing may be thrown. */
public final class NeverThrowsTest {
    public static void main(String[] args) {
        Check check = new Check();
        String[] names = Calls.KINDS.keySet().toArray(new String[0]);
        Method[] methods = new Method[names.length];
        for (int i = 0; i < names.length; i++) methods[i] = Calls.method(AshLines.class, names[i]);
        for (long seed = 1; seed <= 200 && check.isAllRight(); seed++) {
            Calls calls = new Calls(seed, (seed % 5) * 0.2);
            AshLines x = new AshLines();
            for (int i = 0; i < 2000 && check.isAllRight(); i++) {
                int which = calls.below(names.length);
                Object[] arguments = calls.argumentsOf(names[which]);
                check.so("seed " + seed + " " + names[which] + Arrays.toString(arguments), ends(x, methods[which], arguments));
            }
        }
        check.end("NeverThrowsTest");
    }

    private static boolean ends(AshLines x, Method method, Object[] arguments) {
        try {
            Calls.answer(x, method, arguments);
            return true;
        } catch (IllegalStateException e) {
            e.printStackTrace(System.out);
            return false;
        }
    }
}
