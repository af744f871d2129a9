import java.io.IOException;
import java.lang.reflect.Field;
import java.lang.reflect.Method;
import java.lang.reflect.Modifier;
import java.nio.file.Files;
import java.nio.file.Path;
import java.util.ArrayList;
import java.util.Arrays;
import java.util.List;
import java.util.Set;
import java.util.regex.Matcher;
import java.util.regex.Pattern;

/** Those rules of ../shared/LANGUAGE.md that can be seen in the text or in the compiled class. */
public final class LanguageTest {
    private static final Set<String> LIBRARY = Set.of("Arrays.copyOf", "Math.min", "Math.max", "Math.abs", "Math.floorMod",
            "Integer.bitCount", "System.arraycopy");
    private static final Set<Class<?>> STATIC_TYPES = Set.of(int.class, long.class, boolean.class, char.class, String.class,
            int[].class, long[].class, char[].class, byte[].class);

    private static int wrong = 0;

    public static void main(String[] args) throws IOException {
        String text = Files.readString(Path.of("src/main/java/TopWheel.java"));
        report(text.chars().allMatch(c -> c < 128), "a sign above 127");
        String code = text.replaceAll("(?s)/\\*.*?\\*/", "").replaceAll("//[^\n]*", "");
        String bare = code.replaceAll("\"[^\"]*\"", "\"\"");
        words(bare);
        imports(bare);
        library(bare);
        lengths(text);
        classes();
        System.out.println("LanguageTest: " + wrong + " faults");
        if (wrong != 0) {
            System.exit(1);
        }
    }

    private static void report(boolean right, String fault) {
        if (!right) {
            wrong++;
            System.out.println("LanguageTest: " + fault);
        }
    }

    private static void words(String code) {
        for (String word : List.of("synchronized", "assert", "finally", "try", "catch", "var", "float", "double", "Object",
                "protected", "native", "volatile", "equals", "hashCode", "toString", "package")) {
            report(!Pattern.compile("\\b" + word + "\\b").matcher(code).find(), "the word " + word);
        }
        for (String sign : List.of("->", "::", "@", "\"\"\"")) {
            report(!code.contains(sign), "the sign " + sign);
        }
        Matcher thrown = Pattern.compile("throw new (\\w+)\\(\"\"\\);").matcher(code);
        int good = 0;
        while (thrown.find()) {
            good++;
        }
        Matcher all = Pattern.compile("\\bthrow\\b").matcher(code);
        int throwing = 0;
        while (all.find()) {
            throwing++;
        }
        report(good == throwing, "a throw that is not: throw new E(\"a written text\")");
    }

    private static void imports(String code) {
        List<String> imports = code.lines().filter(line -> line.startsWith("import")).toList();
        report(imports.equals(List.of("import java.util.Arrays;", "import java.util.NoSuchElementException;")), "imports " + imports);
    }

    private static void library(String code) {
        Matcher call = Pattern.compile("\\b(Arrays|Math|Integer|Long|System|String|Character|List)\\.(\\w+)").matcher(code);
        while (call.find()) {
            report(LIBRARY.contains(call.group()), "the library's " + call.group());
        }
    }

    /** A method begins at a line that ends with { and is no deeper than a class inside allows. */
    private static void lengths(String text) {
        List<String> lines = new ArrayList<>(text.lines().toList());
        Pattern head = Pattern.compile("^( {4}| {8})(?! )(?!.*\\b(class|new)\\b).*\\) (throws .*)?\\{$");
        for (int i = 0; i < lines.size(); i++) {
            Matcher m = head.matcher(lines.get(i));
            if (!m.matches()) {
                continue;
            }
            int end = i;
            while (end < lines.size() && !lines.get(end).equals(m.group(1) + "}")) {
                end++;
            }
            report(end - i <= 60, "a method of " + (end - i) + " lines: " + lines.get(i).trim());
        }
    }

    private static void classes() {
        List<Class<?>> all = new ArrayList<>(Arrays.asList(TopWheel.class.getDeclaredClasses()));
        all.add(TopWheel.class);
        report(all.size() <= 12, all.size() + " classes");
        for (Class<?> c : all) {
            int fields = 0;
            for (Field f : c.getDeclaredFields()) {
                if (Modifier.isStatic(f.getModifiers())) {
                    report(Modifier.isFinal(f.getModifiers()) && STATIC_TYPES.contains(f.getType()), "a static field: " + f);
                } else {
                    fields++;
                }
            }
            report(fields <= 20, c + " has " + fields + " fields");
            for (Method m : c.getDeclaredMethods()) {
                report(m.getParameterCount() <= 7, "too many parameters: " + m);
                report(!m.isSynthetic(), "a method that the compiler adds: " + m);
            }
        }
    }
}
