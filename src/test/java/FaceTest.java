import java.io.IOException;
import java.lang.reflect.Constructor;
import java.lang.reflect.Field;
import java.lang.reflect.Member;
import java.lang.reflect.Method;
import java.lang.reflect.Modifier;
import java.nio.file.Files;
import java.nio.file.Path;
import java.util.Arrays;
import java.util.Set;
import java.util.TreeSet;
import java.util.stream.Collectors;

/** The public face is the document's, word for word, and nothing else can be seen from outside. */
public final class FaceTest {
    private static int wrong = 0;

    public static void main(String[] args) throws IOException {
        Set<String> due = documentFace();
        Set<String> got = classFace();
        report(due.size() == 52, "the document has " + due.size() + " members");
        due.stream().filter(line -> !got.contains(line)).forEach(line -> report(false, "missing: " + line));
        got.stream().filter(line -> !due.contains(line)).forEach(line -> report(false, "too many: " + line));
        hiddenMembers();
        report(Modifier.isFinal(TopWheel.class.getModifiers()), "the class is not final");
        System.out.println("FaceTest: " + got.size() + " members, " + wrong + " faults");
        if (wrong != 0) {
            System.exit(1);
        }
    }

    private static void report(boolean right, String fault) {
        if (!right) {
            wrong++;
            System.out.println("FaceTest: " + fault);
        }
    }

    private static Set<String> documentFace() throws IOException {
        String document = Files.readString(Path.of("../shared/DOC.md"));
        String face = document.substring(document.indexOf("## The public face"), document.indexOf("## Terms"));
        return face.lines().map(String::trim).filter(line -> line.startsWith("public ") && line.endsWith(";"))
                .map(line -> line.replace("public static final int NONE = -1;", "public static final int NONE;"))
                .map(line -> line.replaceAll("(int|boolean) [a-z]+(?=[,)])", "$1"))
                .collect(Collectors.toCollection(TreeSet::new));
    }

    private static Set<String> classFace() {
        Set<String> face = new TreeSet<>();
        for (Field f : TopWheel.class.getDeclaredFields()) {
            if (Modifier.isPublic(f.getModifiers())) {
                face.add(Modifier.toString(f.getModifiers()) + " " + f.getType().getSimpleName() + " " + f.getName() + ";");
            }
        }
        for (Constructor<?> c : TopWheel.class.getDeclaredConstructors()) {
            face.add(Modifier.toString(c.getModifiers()) + " TopWheel(" + names(c.getParameterTypes(), ", ") + ");");
        }
        for (Method m : TopWheel.class.getDeclaredMethods()) {
            if (Modifier.isPublic(m.getModifiers())) {
                String thrown = names(m.getExceptionTypes(), ", ");
                face.add(Modifier.toString(m.getModifiers()) + " " + m.getReturnType().getSimpleName() + " " + m.getName() + "("
                        + names(m.getParameterTypes(), ", ") + ")" + (thrown.isEmpty() ? "" : " throws " + thrown) + ";");
            }
        }
        return face;
    }

    private static String names(Class<?>[] types, String between) {
        return Arrays.stream(types).map(Class::getSimpleName).collect(Collectors.joining(between));
    }

    private static void hiddenMembers() {
        Set<String> open = Arrays.stream(TopWheel.class.getDeclaredMethods()).filter(m -> Modifier.isPublic(m.getModifiers()))
                .map(Method::getName).collect(Collectors.toSet());
        for (Field f : TopWheel.class.getDeclaredFields()) {
            hidden(f);
        }
        for (Method m : TopWheel.class.getDeclaredMethods()) {
            hidden(m);
            report(Modifier.isPublic(m.getModifiers()) || !open.contains(m.getName()), "a private method is named like a public one: " + m);
        }
        for (Class<?> inner : TopWheel.class.getDeclaredClasses()) {
            report(Modifier.isStatic(inner.getModifiers()) && !Modifier.isPublic(inner.getModifiers()), inner + " is not static, or is public");
            for (Method m : inner.getDeclaredMethods()) {
                report(!open.contains(m.getName()), "a method inside is named like a public one: " + m);
            }
        }
    }

    private static void hidden(Member member) {
        int modifiers = member.getModifiers();
        report(Modifier.isPublic(modifiers) || Modifier.isPrivate(modifiers), member + " can be seen");
    }
}
