import java.util.function.Consumer;
import java.util.function.IntPredicate;
import java.util.function.Supplier;

/** What the tests of boundary cases share: sentences of the document, short ways to make a wheel, seeds for draws. */
abstract class Bounds {
    static final int MOST = Integer.MAX_VALUE;
    static final int LEAST = Integer.MIN_VALUE;
    static final int NONE = -1;

    final Check check;
    private final Document document;

    Bounds(Check check, Document document) {
        this.check = check;
        this.document = document;
    }

    abstract void run();

    /** What is due from here on is due by these words of the document's section of Terms. */
    void says(String words) {
        check.sentence(words, document.quotesTerms(words));
    }

    /** What is due from here on is due by these words of a promise. */
    void says(int promise, String words) {
        check.sentence("promise " + promise + ": " + words, document.quotesPromise(promise, words));
    }

    /** A new wheel that was told these texts of the fair, one behind another. */
    TopWheel wheel(String... texts) {
        TopWheel x = new TopWheel();
        for (String text : texts) {
            check.fair(x, text);
        }
        return x;
    }

    static String rider(int weight, int purse, int party) {
        return "rider weight " + weight + " purse " + purse + " party " + party;
    }

    static String rider(int weight, int purse, int party, int in) {
        return rider(weight, purse, party) + " in " + in;
    }

    static String lines(String line, int times) {
        return (line + ";").repeat(times - 1) + line;
    }

    /** All cradles but one are closed. */
    static String onlyOpen(int cradle) {
        StringBuilder text = new StringBuilder();
        for (int c = 0; c < 8; c++) {
            if (c != cradle) {
                text.append(text.isEmpty() ? "" : ";").append("bolts ").append(c).append(" 0");
            }
        }
        return text.toString();
    }

    /** The seed behind so many draws, worked out in longs. */
    static int seedAfter(int seed, int draws) {
        long s = seed;
        for (int i = 0; i < draws; i++) {
            s = (1103515245L * s + 12345L) % (1L << 32);
        }
        return (int) s;
    }

    static int drawAfter(int seed, int draws) {
        long whole = seedAfter(seed, draws) & 0xffffffffL;
        return (int) (whole / 65536 % 32768);
    }

    /** The least seed whose first draws are such. */
    static int seedFor(IntPredicate... such) {
        for (int seed = 1; seed < 10_000_000; seed++) {
            boolean found = true;
            for (int i = 0; found && i < such.length; i++) {
                found = such[i].test(drawAfter(seed, i + 1));
            }
            if (found) {
                return seed;
            }
        }
        throw new IllegalStateException("no such seed");
    }

    static boolean any(int draw) {
        return draw >= 0;
    }

    /** A call that throws, behind which the wheel is as a twin that was never called so. */
    void refused(String call, Class<? extends RuntimeException> due, Supplier<TopWheel> made, Consumer<TopWheel> run) {
        TopWheel x = made.get();
        check.thrown(call, due, () -> run.accept(x));
        check.alike(call + " changes nothing", View.of(x), View.of(made.get()));
    }

    /** A call that answers, behind which the wheel is as a twin that was never called so. */
    void harmless(String call, Supplier<TopWheel> made, Consumer<TopWheel> run) {
        TopWheel x = made.get();
        run.accept(x);
        check.alike(call + " changes nothing", View.of(x), View.of(made.get()));
    }
}
