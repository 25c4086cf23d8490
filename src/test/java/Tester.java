import java.nio.charset.StandardCharsets;

/** Counts answers that are not due, and puts texts and bytes on an object's tape. */
final class Tester {
    private int wrong;
    private int asked;
    private final String name;
    private String part = "";

    Tester(String name) {
        this.name = name;
    }

    /** What the next answers are asked for. */
    void begin(String what) {
        part = what + ": ";
    }

    void due(String what, long got, long want) {
        asked++;
        if (got != want) {
            wrong++;
            System.out.println(name + ": " + part + what + " answered " + got + ", due is " + want);
        }
    }

    void due(String what, boolean got, boolean want) {
        due(what, got ? 1 : 0, want ? 1 : 0);
    }

    void end() {
        System.out.println(name + ": " + asked + " answers, " + wrong + " not as due");
        if (wrong != 0) {
            System.exit(1);
        }
    }

    /** Feeds bytes, filled up with 0 to whole feeds; false if the tape has no room for them. */
    static boolean feed(NoEcho x, int... bytes) {
        int[] words = new int[(bytes.length + 19) / 20 * 5];
        for (int i = 0; i < bytes.length; i++) {
            words[i / 4] |= (bytes[i] & 255) << 24 - 8 * (i % 4);
        }
        boolean fits = true;
        for (int i = 0; i < words.length; i += 5) {
            fits &= x.feed(words[i], words[i + 1], words[i + 2], words[i + 3], words[i + 4]) != NoEcho.NONE;
        }
        return fits;
    }

    static void feedText(NoEcho x, String text) {
        byte[] raw = text.getBytes(StandardCharsets.ISO_8859_1);
        int[] bytes = new int[raw.length];
        for (int i = 0; i < raw.length; i++) {
            bytes[i] = raw[i] & 255;
        }
        feed(x, bytes);
    }

    static int thing(NoEcho x, int t, String pattern) {
        feedText(x, pattern);
        return x.thing(t, pattern.length());
    }

    static int law(NoEcho x, int w, String text) {
        feedText(x, text);
        return x.law(w, text.length());
    }

    static int judged(NoEcho x, int w, int n, int... bytes) {
        feed(x, bytes);
        return x.judged(w, n);
    }

    static int held(NoEcho x, int laws, int n, int what, int... bytes) {
        feed(x, bytes);
        return x.held(laws, n, what);
    }

    static int coded(NoEcho x, int m, int n, int what, int... bytes) {
        feed(x, bytes);
        return x.coded(m, n, what);
    }

    static long heard(NoEcho x, int n, int what, int... bytes) {
        feed(x, bytes);
        return x.heard(n, what);
    }
}
