import java.io.IOException;
import java.lang.reflect.Field;
import java.lang.reflect.Method;
import java.lang.reflect.Modifier;
import java.nio.file.Files;
import java.nio.file.Path;
import java.util.regex.Matcher;
import java.util.regex.Pattern;

/** README.md: its calls answer what it says, and it names the whole face. */
public final class ReadmeTest {
    private static final Pattern CALL = Pattern.compile("(?m)^ash\\.(\\w+)\\((.*)\\); +// (-?\\d+)(:.*)?$");

    public static void main(String[] args) throws IOException, IllegalAccessException {
        Check check = new Check();
        String text = Files.readString(Path.of("README.md"));
        example(check, text);
        names(check, text);
        refusals(check, text);
        check.so("it says for how many calls", text.contains("at most 512 calls"));
        check.so("it says how to run the tests", text.contains("    .ci/run\n"));
        tests(check, text);
        check.end("ReadmeTest");
    }

    private static void example(Check check, String text) {
        int from = text.indexOf("```java\n");
        int to = text.indexOf("```\n", from + 1);
        check.so("an object is made", from >= 0 && to > from && text.startsWith("AshLines ash = new AshLines();\n", from + 8));
        String code = text.substring(from, to);
        AshLines ash = new AshLines();
        int asked = 0;
        Matcher m = CALL.matcher(code);
        while (m.find()) {
            asked++;
            check.due("README: " + m.group(), Ash.ask(ash, plainCall(m.group(1), m.group(2))), Long.parseLong(m.group(3)));
        }
        check.due("every call of README has its answer behind it", asked, code.split("\nash\\.", -1).length - 1);
    }

    /** The form that Ash takes: "say 97" for say('a'). */
    private static String plainCall(String name, String arguments) {
        StringBuilder call = new StringBuilder(name);
        if (arguments.isEmpty()) return name;
        for (String argument : arguments.split(", ")) {
            boolean isSign = argument.startsWith("'");
            call.append(' ').append(isSign ? String.valueOf((int) argument.charAt(1)) : argument);
        }
        return call.toString();
    }

    private static void names(Check check, String text) {
        for (Method method : AshLines.class.getDeclaredMethods()) {
            if (!Modifier.isPublic(method.getModifiers())) continue;
            check.so("README names " + method.getName(), text.contains("`" + method.getName() + "`"));
        }
    }

    private static void refusals(Check check, String text) throws IllegalAccessException {
        for (Field field : AshLines.class.getFields()) {
            String name = field.getName();
            check.so("README names " + name, text.contains("`" + name + "`"));
            Matcher row = Pattern.compile("\\| `" + name + "` \\| (-\\d+) \\|").matcher(text);
            if (row.find()) check.due("README on " + name, Long.parseLong(row.group(1)), field.getLong(null));
        }
    }

    private static void tests(Check check, String text) throws IOException {
        try (var files = Files.list(Path.of("src/test/java"))) {
            for (Path file : files.toList()) {
                String name = file.getFileName().toString().replace(".java", "");
                if (name.endsWith("Test")) check.so("README names " + name, text.contains("`" + name + "`"));
            }
        }
    }
}
