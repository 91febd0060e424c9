import java.io.IOException;
import java.lang.management.ManagementFactory;
import java.lang.reflect.Array;
import java.lang.reflect.Field;
import java.lang.reflect.Method;
import java.lang.reflect.Modifier;
import java.nio.file.Files;
import java.nio.file.Path;
import java.util.ArrayList;
import java.util.IdentityHashMap;
import java.util.List;
import java.util.Map;
import java.util.Set;
import java.util.TreeSet;
import java.util.regex.Matcher;
import java.util.regex.Pattern;

/** What the document's face and LANGUAGE.md ask for, as far as it can be seen in the file or counted. */
public final class LanguageTest {
    private static final Check check = new Check();

    public static void main(String[] args) throws IOException, IllegalAccessException {
        Path program = Path.of(args.length > 0 ? args[0] : "src/main/java/AshLines.java");
        face(Path.of("../shared/DOC.md"));
        members();
        source(Files.readString(program));
        roomOfOne();
        roomOfCalls();
        check.end("LanguageTest");
    }

    /** Rule 1: the methods of the document's code block, and no others. */
    private static void face(Path document) throws IOException {
        Set<String> wanted = new TreeSet<>();
        Matcher m = Pattern.compile("(?m)^    public (int|long) (\\w+)\\(([^)]*)\\);").matcher(Files.readString(document));
        while (m.find()) {
            StringBuilder types = new StringBuilder();
            for (String parameter : m.group(3).split(", *")) if (!parameter.isEmpty()) types.append(parameter.split(" ")[0]).append(' ');
            wanted.add(m.group(1) + " " + m.group(2) + " " + types);
        }
        Set<String> found = new TreeSet<>();
        for (Method method : AshLines.class.getDeclaredMethods()) {
            if (Modifier.isPrivate(method.getModifiers())) continue;
            check.so(method + " is public and of the object", method.getModifiers() == Modifier.PUBLIC);
            StringBuilder types = new StringBuilder();
            for (Class<?> type : method.getParameterTypes()) types.append(type).append(' ');
            found.add(method.getReturnType() + " " + method.getName() + " " + types);
        }
        check.due("42 methods are in the document", wanted.size(), 42);
        check.so("the face is the document's: " + wanted + " but " + found, wanted.equals(found));
        Set<String> constants = new TreeSet<>();
        for (Field field : AshLines.class.getDeclaredFields()) if (!Modifier.isPrivate(field.getModifiers())) constants.add(field.getName());
        check.so("constants " + constants, constants.equals(Set.of("NONE", "UNKNOWN", "OUTSIDE", "STATE", "FULL", "NO", "LOST", "GONE")));
        check.so("public final", AshLines.class.getModifiers() == (Modifier.PUBLIC | Modifier.FINAL));
        check.due("constructors", AshLines.class.getDeclaredConstructors().length, 1);
    }

    /** Rules 1, 5 and 11. */
    private static void members() {
        Set<String> faceNames = Calls.KINDS.keySet();
        List<Class<?>> all = new ArrayList<>(List.of(AshLines.class.getDeclaredClasses()));
        for (Class<?> inside : all) check.so(inside + " is static", Modifier.isStatic(inside.getModifiers()));
        all.add(AshLines.class);
        check.so("twelve classes at most: " + all.size(), all.size() <= 12);
        for (Class<?> one : all) {
            int fields = 0;
            for (Field field : one.getDeclaredFields()) {
                if (!Modifier.isStatic(field.getModifiers())) fields++;
                else check.so(field + " is final", Modifier.isFinal(field.getModifiers()));
            }
            check.so(one + " has twenty fields at most: " + fields, fields <= 20);
            for (Method method : one.getDeclaredMethods()) {
                check.so(method + " has seven parameters at most", method.getParameterCount() <= 7);
                boolean isFace = one == AshLines.class && Modifier.isPublic(method.getModifiers());
                check.so(method + " bears no name of the face", isFace || !faceNames.contains(method.getName()));
            }
        }
    }

    private static void source(String text) {
        String code = text.replaceAll("(?s)/\\*.*?\\*/", "").replaceAll("//[^\n]*", "");
        String[] forbidden = {
            "->", "::", "\\bcatch\\b", "\\bthrow\\b", "\\bfinally\\b", "\\bsynchronized\\b", "\\bassert\\b", "\\bvar\\b", "Exact\\(",
            "\\bpackage\\b", "\\bRandom\\b", "System\\.(?!arraycopy)", "\\bThread\\b", "\"", "MAX_VALUE", "MIN_VALUE", "\\bObject\\b", "\\(int\\)"
        };
        for (String sign : forbidden) check.so("no " + sign, !Pattern.compile(sign).matcher(code).find());
        Matcher imports = Pattern.compile("(?m)^import (.*);").matcher(code);
        while (imports.find()) check.so("import " + imports.group(1), imports.group(1).equals("java.util.Arrays"));
        Matcher calls = Pattern.compile("\\b(Arrays|Integer|Long|Math)\\.(\\w+)").matcher(code);
        Set<String> allowed = Set.of("Arrays.fill", "Integer.bitCount", "Long.bitCount", "Math.min", "Math.max", "Math.abs");
        while (calls.find()) check.so(calls.group(), allowed.contains(calls.group()));
        for (int i = 0; i < text.length(); i++) if (text.charAt(i) > 126) check.so("sign " + (int) text.charAt(i), false);
        methodLengths(text);
    }

    /** Rule 11: some sixty lines. Methods of the outer class are set in by four, others by eight. */
    private static void methodLengths(String text) {
        for (String gap : new String[] {"    ", "        "}) {
            Matcher m = Pattern.compile("(?m)^" + gap + "(?!private static final class)\\S[^\n;]*\\) \\{\n(.*\n)*?" + gap + "}\n").matcher(text);
            while (m.find()) {
                int lines = m.group().split("\n").length;
                check.so(m.group().split("\n")[0] + " has " + lines + " lines", lines <= 60);
            }
        }
    }

    /** What one object holds: small against a room of 600,000 objects and 7.3 million fields. */
    private static void roomOfOne() throws IllegalAccessException {
        Map<Object, Boolean> seen = new IdentityHashMap<>();
        long elements = countIn(new AshLines(), seen);
        check.so("objects " + seen.size(), seen.size() <= 100);
        check.so("elements " + elements, elements <= 5000);
    }

    private static long countIn(Object of, Map<Object, Boolean> seen) throws IllegalAccessException {
        if (of == null || seen.put(of, true) != null) return 0;
        if (of.getClass().isArray()) return Array.getLength(of);
        long sum = 0;
        for (Field field : of.getClass().getDeclaredFields()) {
            if (Modifier.isStatic(field.getModifiers())) continue;
            field.setAccessible(true);
            sum++;
            if (!field.getType().isPrimitive()) sum += countIn(field.get(of), seen);
        }
        return sum;
    }

    /** Calls make nothing: the thread's own count of bytes stays where it is. */
    private static void roomOfCalls() {
        com.sun.management.ThreadMXBean counter = (com.sun.management.ThreadMXBean) ManagementFactory.getThreadMXBean();
        allCalls(new AshLines());
        AshLines x = new AshLines();
        counter.getCurrentThreadAllocatedBytes();
        long before = counter.getCurrentThreadAllocatedBytes();
        long sum = allCalls(x);
        long made = counter.getCurrentThreadAllocatedBytes() - before;
        check.so("answers " + sum, sum != 0);
        check.so("calls made " + made + " bytes", made < 1000);
    }

    private static long allCalls(AshLines x) {
        long sum = 0;
        for (int i = 0; i < 10; i++) {
            sum += x.piece(i % 3, 0, 50, 51) + x.round(i % 2, 2, 0, 50, 51) + x.lean(0, 0, 0) + x.slack(i % 4);
            sum += x.grain(i % 6, i, 0, 50 + i, 50, 50) + x.grain(0, i, 1, 50, 50, 50) + x.truly(i, 0, 0) + x.grains(i) + x.glass(i, 0, 0);
            sum += x.say('y') + x.say('<') + x.say('9') + x.fault() + x.rule() + x.wipe();
            sum += x.gap(0, i, 3) + x.alike(0, i) + x.chain(0, 1) + x.broken();
            sum += x.mountain(i % 6, 50, 50, 50, 1) + x.place(i % 2, i % 6, i, i) + x.weight(i, 0) + x.whose(i, 0, 1);
            sum += x.age(0, i, 0, 9999 - i) + x.age(1, i, i, 9999) + x.tie(i, i % 4) + x.sunk(i, i == 3) + x.above(0, 1) + x.untrue();
            sum += x.drop(0) + x.drop(1) + x.drop(12) + x.net(1, i, 0) + x.gain(i);
            sum += x.born(i, 0) + x.shade(i, 0, 0, 50) + x.hour(i) + x.way(0, 1) + x.winds(i % 4, 0);
            sum += x.name(i, i % 8) + x.several() + x.called(i) + x.first(1, 30 + i) + x.washed(i);
            sum += x.look(i % 6, i, i) + x.worth(63, 0) + x.next(600, 0) + x.told(7);
        }
        return sum;
    }
}
