import java.lang.reflect.InvocationTargetException;
import java.lang.reflect.Method;
import java.lang.reflect.Modifier;
import java.util.ArrayList;
import java.util.Arrays;
import java.util.Comparator;
import java.util.List;
import java.util.Map;
import java.util.Random;

/** Runs of calls, chosen by a fixed seed, on the class and on its model: every answer must be the same. */
public final class ModelTest {
    private static final String[] WORDS = {"rider", "weight", "purse", "party", "in", "bolts", "fare", "chest", "reach", "wind", "top",
        "go", "more", "less", "if", "or", "and", "not", "rich", "alone", "cradle", "stop", "height", ";", "(", ")", "<", ">", "+",
        "0", "1", "7", "8", "9", "30", "31", "99", "100", "999", "1000", "x", ".", " "};
    private static final int[] ODD_NUMBERS = {-1, 8, 9, 12, 60, 61, 64, 65, 99, 100, 101, Integer.MIN_VALUE, Integer.MAX_VALUE};

    private static final int RIDERS = -1;
    private static final int REACH = -2;
    /** The least number that is wrong, of each number that a call is given. */
    private static final Map<String, int[]> BELOW = Map.ofEntries(
            Map.entry("rider", new int[] {RIDERS, 8}), Map.entry("cradle", new int[] {8, 6}), Map.entry("party", new int[] {4, 4}),
            Map.entry("board", new int[] {RIDERS, 8}), Map.entry("move", new int[] {RIDERS}), Map.entry("off", new int[] {RIDERS}),
            Map.entry("bolt", new int[] {8}), Map.entry("dole", new int[] {RIDERS, 90}), Map.entry("fare", new int[] {20}),
            Map.entry("bribe", new int[] {8}), Map.entry("stops", new int[] {12}), Map.entry("odds", new int[] {8, 6}),
            Map.entry("best", new int[] {6}), Map.entry("rules", new int[] {4, 6}), Map.entry("seat", new int[] {RIDERS}),
            Map.entry("rests", new int[] {4, 4}), Map.entry("boards", new int[] {RIDERS, REACH}),
            Map.entry("ruled", new int[] {RIDERS, REACH}), Map.entry("round", new int[] {REACH}),
            Map.entry("ruin", new int[] {REACH, 101}), Map.entry("ahead", new int[] {REACH, 40, 3}),
            Map.entry("trial", new int[] {61}), Map.entry("span", new int[] {61}), Map.entry("led", new int[] {RIDERS}),
            Map.entry("log", new int[] {61, 4}), Map.entry("count", new int[] {15}), Map.entry("end", new int[] {60}));

    private final Random random;
    private final TopWheel wheel = new TopWheel();
    private final Model model = new Model();
    private final List<String> story = new ArrayList<>();
    private boolean wrong = false;

    private ModelTest(long seed) {
        random = new Random(seed);
    }

    public static void main(String[] args) {
        int runs = args.length > 0 ? Integer.parseInt(args[0]) : 400;
        int from = args.length > 1 ? Integer.parseInt(args[1]) : 1;
        for (int i = from; i < from + runs; i++) {
            ModelTest test = new ModelTest(i);
            test.play();
            if (test.wrong) {
                System.out.println("run " + i + " of ModelTest:");
                test.story.forEach(System.out::println);
                System.exit(1);
            }
        }
        System.out.println("ModelTest: " + runs + " runs are as the model's");
    }

    private void play() {
        List<Method> face = Arrays.stream(TopWheel.class.getDeclaredMethods())
                .filter(m -> Modifier.isPublic(m.getModifiers())).sorted(Comparator.comparing(Method::getName)).toList();
        for (int i = random.nextInt(4); i >= 0; i--) {
            tell("fair", fairText());
        }
        tell("law", lawText());
        for (int i = 0; i < 120 && !wrong; i++) {
            int kind = random.nextInt(40);
            if (kind == 0) {
                tell("fair", fairText());
            } else if (kind == 1) {
                tell("law", lawText());
            } else if (kind == 2) {
                tell(random.nextBoolean() ? "moves" : "watch", clue(false));
            } else if (kind == 3) {
                tell(random.nextBoolean() ? "fire" : "ask", clue(true));
            } else if (kind == 4) {
                tell(random.nextBoolean() ? "fair" : "law", rubbish());
            } else if (kind < 10) {
                compare(face, "stops");
            } else {
                Method m = face.get(random.nextInt(face.size()));
                compare(m, arguments(m));
            }
        }
        for (int what = 0; what < 15; what++) {
            compare(method("count"), new Object[] {what});
        }
    }

    private void compare(List<Method> face, String name) {
        Method m = face.stream().filter(f -> f.getName().equals(name)).findFirst().orElseThrow();
        compare(m, arguments(m));
    }

    private static Method method(String name) {
        return Arrays.stream(TopWheel.class.getDeclaredMethods()).filter(m -> m.getName().equals(name)).findFirst().orElseThrow();
    }

    private void compare(Method m, Object[] arguments) {
        String got = answer(m, wheel, arguments);
        try {
            String due = answer(Model.class.getMethod(m.getName(), m.getParameterTypes()), model, arguments);
            story.add(m.getName() + Arrays.toString(arguments) + " " + got + (got.equals(due) ? "" : ", due is " + due));
            wrong = wrong || !got.equals(due);
        } catch (NoSuchMethodException e) {
            wrong = true;
            story.add("the model has no " + m.getName());
        }
    }

    private static String answer(Method m, Object on, Object[] arguments) {
        try {
            return String.valueOf(m.invoke(on, arguments));
        } catch (InvocationTargetException e) {
            return "throws." + e.getCause().getClass().getSimpleName();
        } catch (IllegalAccessException e) {
            return e.toString();
        }
    }

    private Object[] arguments(Method m) {
        Class<?>[] types = m.getParameterTypes();
        Object[] arguments = new Object[types.length];
        for (int i = 0; i < types.length; i++) {
            arguments[i] = types[i] == boolean.class ? (Object) random.nextBoolean() : (Object) number(m.getName(), i);
        }
        return arguments;
    }

    private int number(String name, int which) {
        if (random.nextInt(20) == 0) {
            return ODD_NUMBERS[random.nextInt(ODD_NUMBERS.length)];
        }
        int[] below = BELOW.get(name);
        if (below == null) {
            return random.nextInt();
        }
        int bound = below[which] == RIDERS ? wheel.count(0) : below[which] == REACH ? wheel.count(7) : below[which];
        return random.nextInt(bound + 1);
    }

    /** The tape is fed and cut, too, so that all of it is compared. */
    private void tell(String call, String text) {
        compare(method("end"), new Object[] {0});
        for (int from = 0; from < text.length(); from += 20) {
            Object[] words = new Object[5];
            for (int w = 0; w < 5; w++) {
                int word = 0;
                for (int k = 0; k < 4; k++) {
                    int at = from + 4 * w + k;
                    word = word << 8 | (at < text.length() ? text.charAt(at) & 255 : 0);
                }
                words[w] = word;
            }
            compare(method("feed"), words);
        }
        compare(method("end"), new Object[] {text.length()});
        story.add("'" + text + "'");
        Method m = method(call);
        compare(m, arguments(m));
        compare(method("fault"), new Object[0]);
    }

    private String fairText() {
        StringBuilder text = new StringBuilder();
        int lines = random.nextInt(20) == 0 ? 13 + random.nextInt(3) : random.nextInt(7);
        for (int i = 0; i < lines; i++) {
            text.append(i == 0 ? "" : random.nextInt(4) == 0 ? " ; " : ";").append(fairLine());
        }
        return spoiled(text);
    }

    private String fairLine() {
        return switch (random.nextInt(13)) {
            case 0 -> "bolts " + random.nextInt(8) + " " + random.nextInt(3);
            case 1 -> "fare " + random.nextInt(1 + random.nextInt(100));
            case 2 -> "chest " + random.nextInt(400);
            case 3 -> "reach " + (1 + random.nextInt(8));
            case 4 -> "wind " + random.nextInt(1 + random.nextInt(101));
            case 5 -> "top " + random.nextInt(8);
            default -> "rider weight " + (1 + random.nextInt(9)) + " purse " + random.nextInt(random.nextInt(400) + 1)
                    + " party " + random.nextInt(4) + (random.nextInt(3) == 0 ? "" : " in " + random.nextInt(8));
        };
    }

    private String lawText() {
        StringBuilder text = new StringBuilder();
        int lines = random.nextInt(20) == 0 ? 13 : random.nextInt(6);
        for (int i = 0; i < lines; i++) {
            text.append(i == 0 ? "" : ";").append(WORDS[11 + random.nextInt(3)]).append(' ').append(random.nextInt(9));
            if (random.nextInt(4) > 0) {
                text.append(" if ").append(condition(lines > 12 ? 9 : 0));
            }
        }
        return spoiled(text);
    }

    private String condition(int depth) {
        int kind = random.nextInt(depth > 7 ? 4 : 10);
        return switch (kind) {
            case 0 -> "rich";
            case 1 -> "alone";
            case 2, 3 -> sum() + (random.nextBoolean() ? "<" : " > ") + sum();
            case 4, 5 -> "not " + condition(depth + 1);
            case 6, 7 -> "(" + condition(depth + 1) + ")";
            case 8 -> condition(depth + 2) + " and " + condition(depth + 2);
            default -> condition(depth + 2) + " or " + condition(depth + 2);
        };
    }

    private String sum() {
        String[] parts = {"cradle", "weight", "party", "bolts", "stop", "height", "chest", "" + random.nextInt(10)};
        String part = parts[random.nextInt(parts.length)];
        return random.nextInt(3) == 0 ? part + "+" + sum() : part;
    }

    private String spoiled(StringBuilder text) {
        text.setLength(Math.min(400, text.length()));
        if (random.nextInt(8) == 0 && text.length() > 0) {
            int at = random.nextInt(text.length());
            switch (random.nextInt(4)) {
                case 0 -> text.deleteCharAt(at);
                case 1 -> text.setLength(at);
                case 2 -> text.insert(at, WORDS[random.nextInt(WORDS.length)]);
                default -> text.setCharAt(at, (char) random.nextInt(256));
            }
        }
        text.setLength(Math.min(400, text.length()));
        return text.toString();
    }

    private String rubbish() {
        StringBuilder text = new StringBuilder();
        for (int i = random.nextInt(30); i > 0; i--) {
            text.append(WORDS[random.nextInt(WORDS.length)]).append(random.nextInt(3) == 0 ? "" : " ");
        }
        return text.toString();
    }

    private String clue(boolean pairs) {
        StringBuilder text = new StringBuilder();
        int size = random.nextInt(10) == 0 ? 38 + random.nextInt(6) : random.nextInt(6);
        int from = random.nextInt(10);
        for (int i = 0; i < size; i++) {
            int most = pairs ? i % 2 == 0 ? 5 : 2 : random.nextInt(4) == 0 ? 30 : 8;
            text.append((char) (random.nextInt(60) == 0 ? random.nextInt(256) : (pairs ? 0 : 1 + from) + random.nextInt(most)));
        }
        return text.toString();
    }
}
