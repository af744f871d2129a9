/** Counts the answers that are not due, and tells a wheel its texts. */
final class Check {
    private final String name;
    private int calls = 0;
    private int wrong = 0;
    /** What is being tested, in the document's words; null where a test quotes none. */
    private String sentence = null;

    Check(String name) {
        this.name = name;
    }

    /** The answers from here on are due by these words of the document, if they stand in it. */
    void sentence(String words, boolean stands) {
        sentence = words;
        if (!stands) {
            fault("the document does not say this there, or says it twice");
        }
    }

    void fault(String what) {
        wrong++;
        System.out.println(name + ": " + what + (sentence == null ? "" : "\n    by: " + sentence));
    }

    void same(String call, long got, long want) {
        calls++;
        if (got != want) {
            fault(call + " answered " + got + ", due is " + want);
        }
    }

    void same(String call, boolean got, boolean want) {
        same(call, got ? 1 : 0, want ? 1 : 0);
    }

    /** Two texts of lines; only the lines that differ are told. */
    void alike(String call, String got, String want) {
        calls++;
        String[] gotLines = got.split("\n");
        String[] wantLines = want.split("\n");
        for (int i = 0; i < Math.max(gotLines.length, wantLines.length); i++) {
            String one = i < gotLines.length ? gotLines[i] : "nothing";
            String other = i < wantLines.length ? wantLines[i] : "nothing";
            if (!one.equals(other)) {
                fault(call + ": there is " + one + ", due is " + other);
            }
        }
    }

    void thrown(String call, Class<? extends RuntimeException> due, Runnable run) {
        calls++;
        try {
            run.run();
        } catch (RuntimeException e) {
            if (e.getClass() != due) {
                fault(call + " threw " + e + ", due is " + due.getSimpleName());
            }
            return;
        }
        fault(call + " threw nothing, due is " + due.getSimpleName());
    }

    void index(String call, Runnable run) {
        thrown(call, IndexOutOfBoundsException.class, run);
    }

    void argument(String call, Runnable run) {
        thrown(call, IllegalArgumentException.class, run);
    }

    void state(String call, Runnable run) {
        thrown(call, IllegalStateException.class, run);
    }

    void element(String call, Runnable run) {
        thrown(call, java.util.NoSuchElementException.class, run);
    }

    /** A text that is right for the fair. */
    void fair(TopWheel x, String text) {
        put(x, text);
        try {
            x.fair();
        } catch (RuntimeException e) {
            fault("'" + text + "' threw " + e + " at " + x.fault());
        }
    }

    /** A text that is right for the law. */
    void law(TopWheel x, String text) {
        put(x, text);
        try {
            x.law();
        } catch (RuntimeException e) {
            fault("'" + text + "' threw " + e + " at " + x.fault());
        }
    }

    void wrongFair(TopWheel x, String text, int at) {
        put(x, text);
        argument("fair of '" + text + "'", x::fair);
        same("fault of '" + text + "'", x.fault(), at);
    }

    void wrongLaw(TopWheel x, String text, int at) {
        put(x, text);
        argument("law of '" + text + "'", x::law);
        same("fault of '" + text + "'", x.fault(), at);
    }

    static void put(TopWheel x, String text) {
        int[] bytes = new int[text.length()];
        for (int i = 0; i < bytes.length; i++) {
            bytes[i] = text.charAt(i);
        }
        put(x, bytes);
    }

    /** The tape has just these bytes then. */
    static void put(TopWheel x, int... bytes) {
        x.end(0);
        for (int from = 0; from < bytes.length; from += 20) {
            int[] words = new int[5];
            for (int i = 0; i < 20 && from + i < bytes.length; i++) {
                words[i / 4] |= (bytes[from + i] & 255) << 24 - i % 4 * 8;
            }
            x.feed(words[0], words[1], words[2], words[3], words[4]);
        }
        x.end(bytes.length);
    }

    void finish() {
        System.out.println(name + ": " + calls + " answers, " + wrong + " not due");
        if (wrong != 0) {
            System.exit(1);
        }
    }
}
