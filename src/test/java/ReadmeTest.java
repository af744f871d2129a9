import java.io.IOException;
import java.lang.reflect.InvocationTargetException;
import java.lang.reflect.Method;
import java.lang.reflect.Modifier;
import java.nio.file.Files;
import java.nio.file.Path;
import java.util.ArrayList;
import java.util.Arrays;
import java.util.List;
import java.util.regex.Matcher;
import java.util.regex.Pattern;
import java.util.stream.Stream;

/** The example of README.md answers as it says, and README.md names every call and every test. */
public final class ReadmeTest {
    private static final Pattern TELL = Pattern.compile("tell\\(wheel, \"([^\"]*)\"\\);");
    private static final Pattern CALL = Pattern.compile("wheel\\.(\\w+)\\(([^)]*)\\); +// (throws \\w+|true|false|-?\\d+): .+");
    private static final String BEGIN = "TopWheel wheel = new TopWheel();\n";

    private static int calls = 0;
    private static int wrong = 0;

    private ReadmeTest() {
    }

    public static void main(String[] args) throws IOException {
        String readme = Files.readString(Path.of("README.md"));
        int from = readme.indexOf(BEGIN);
        report(from >= 0, "there is no example");
        if (from >= 0) {
            int begin = from + BEGIN.length();
            play(readme.substring(begin, readme.indexOf("```", begin)));
        }
        names(readme);
        System.out.println("ReadmeTest: " + calls + " calls, " + wrong + " faults");
        if (wrong != 0 || calls == 0) {
            System.exit(1);
        }
    }

    private static void report(boolean right, String fault) {
        if (!right) {
            wrong++;
            System.out.println("ReadmeTest: " + fault);
        }
    }

    private static void play(String example) {
        TopWheel wheel = new TopWheel();
        for (String line : example.lines().toList()) {
            Matcher tell = TELL.matcher(line);
            Matcher call = CALL.matcher(line);
            if (tell.matches()) {
                Check.put(wheel, tell.group(1));
            } else if (call.matches()) {
                calls++;
                String got = answer(wheel, call.group(1), call.group(2));
                report(got.equals(call.group(3)), "'" + line + "' answered " + got);
            } else {
                report(false, "no call: '" + line + "'");
            }
        }
    }

    private static String answer(TopWheel wheel, String name, String told) {
        List<Object> numbers = new ArrayList<>();
        for (String number : told.isEmpty() ? new String[0] : told.split(", ")) {
            numbers.add(Integer.valueOf(number));
        }
        Method method = face().filter(m -> m.getName().equals(name)).findFirst().orElseThrow();
        try {
            return String.valueOf(method.invoke(wheel, numbers.toArray()));
        } catch (InvocationTargetException e) {
            return "throws " + e.getCause().getClass().getSimpleName();
        } catch (IllegalAccessException e) {
            return e.toString();
        }
    }

    private static Stream<Method> face() {
        return Arrays.stream(TopWheel.class.getDeclaredMethods()).filter(m -> Modifier.isPublic(m.getModifiers()));
    }

    private static void names(String readme) throws IOException {
        face().forEach(m -> report(readme.contains("`" + m.getName() + "`"), "README.md does not name the call " + m.getName()));
        try (Stream<Path> files = Files.list(Path.of("src/test/java"))) {
            files.map(file -> file.getFileName().toString()).filter(file -> file.endsWith("Test.java"))
                    .map(file -> file.substring(0, file.length() - ".java".length()))
                    .forEach(test -> report(readme.contains("`" + test + "`"), "README.md does not name the test " + test));
        }
        report(readme.contains(".ci/run"), "README.md does not say how to run the tests");
    }
}
