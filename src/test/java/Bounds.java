/** What the tests of single sentences share: an object that knows some things, and shorter names. */
abstract class Bounds {
    static final int LOW = Integer.MIN_VALUE;
    static final int HIGH = Integer.MAX_VALUE;
    static final int NONE = -1;
    static final int ALL = 0x1FFFFFE;

    /** Things 0, 1, .. by their patterns. */
    static NoEcho tongue(String... patterns) {
        NoEcho x = new NoEcho();
        for (int t = 0; t < patterns.length; t++) {
            Tester.thing(x, t, patterns[t]);
        }
        return x;
    }

    static NoEcho tongueOfAll(String pattern) {
        NoEcho x = new NoEcho();
        for (int t = 0; t < 12; t++) {
            Tester.thing(x, t, pattern);
        }
        return x;
    }

    /** A speaker says a thing in several lengths, one behind the other. */
    static void say(NoEcho x, int s, int t, int... lengths) {
        for (int l : lengths) {
            x.say(s, t, l);
        }
    }

    static void fill(NoEcho x, int sentences) {
        for (int i = x.count(0); i < sentences; i++) {
            x.say(0, 0, 1);
        }
    }

    static int bits(int... places) {
        int bits = 0;
        for (int place : places) {
            bits |= 1 << place;
        }
        return bits;
    }

    static String clauses(int n) {
        return "n(l=a);".repeat(n - 1) + "n(l=a)";
    }

    static int nextSeed(int x) {
        return (int) ((25173L * x + 13849) % 65536);
    }

    /** The pattern is read, has these lengths, and leaves no tape. */
    static void pattern(Tester test, String text, int lengths) {
        NoEcho x = tongue("ab|c");
        test.due("thing " + text, Tester.thing(x, 0, text), Integer.bitCount(lengths));
        test.due("lengths of " + text, x.lengths(0), lengths);
        test.due("tape behind " + text, x.count(4), 0);
    }

    static void patternFault(Tester test, String text, int fault) {
        NoEcho x = tongue("ab|c");
        test.due("thing " + text, Tester.thing(x, 0, text), fault);
        test.due("the one before " + text, x.lengths(0), bits(1, 2));
        test.due("tape behind " + text, x.count(4), 0);
    }

    static void lawRead(Tester test, String text, int clauses) {
        NoEcho x = new NoEcho();
        test.due("law " + text, Tester.law(x, 0, text), clauses);
        test.due("clauses of " + text, x.count(2), clauses);
        test.due("tape behind " + text, x.count(4), 0);
    }

    static void lawFault(Tester test, String text, int fault) {
        NoEcho x = tongue("a|bb");
        Tester.law(x, 0, "n(l=2);p7(l=1)");
        x.say(0, 0, 1);
        test.due("law " + text, Tester.law(x, 0, text), fault);
        test.due("clauses stay " + text, x.count(2), 2);
        test.due("bans stay " + text, x.ways(0, 0, 0), bits(1));
        test.due("pay stays " + text, x.paid(0), 7);
        test.due("tape behind " + text, x.count(4), 0);
    }

    /** Whether a C holds, for speaker 0, thing 0, five words, as the first sentence. */
    static void condition(Tester test, String text, boolean holds) {
        NoEcho x = tongue("a5");
        test.due("law n(" + text + ")", Tester.law(x, 0, "n(" + text + ")"), 1);
        test.due(text + " holds", x.may(0, 0, 0, 5), holds ? 0 : 1);
    }

    /** What an E pays for a first sentence of five words. */
    static void price(Tester test, String text, int pay) {
        NoEcho x = tongue("a5");
        x.say(0, 0, 5);
        test.due("law p" + text, Tester.law(x, 0, "p" + text + "(0=0)"), 1);
        test.due("pay of " + text, x.said(0, 3), pay);
    }

    /** Whether what is to be said now is let by a law of one clause. */
    static int lets(NoEcho x, String clause, int s, int t, int l) {
        Tester.law(x, 1, clause);
        return x.may(1, s, t, l);
    }

    /** Words and row of a talk that can be held. */
    static void held(Tester test, NoEcho x, int laws, int[] told, int words, int... row) {
        int n = told.length / 2;
        test.due("held words", Tester.held(x, laws, n, NONE, told), words);
        test.due("held at most", Tester.held(x, laws, n, 20, told), n);
        for (int i = 0; i < n; i++) {
            test.due("held place " + i, Tester.held(x, laws, n, i, told), row[i]);
        }
    }

    static void coded(Tester test, NoEcho x, int m, int[] told, int words, int... row) {
        int n = told.length / 3;
        test.due("coded words", Tester.coded(x, m, n, NONE, told), words);
        test.due("coded at most", Tester.coded(x, m, n, 20, told), n);
        for (int i = 0; i < n; i++) {
            test.due("coded place " + i, Tester.coded(x, m, n, i, told), row[i]);
        }
    }

    /** A round, or no round if the row is empty. */
    static void rounded(Tester test, NoEcho x, int t, int... row) {
        test.due("round of how many", x.round(t, NONE), row.length == 0 ? -2 : row.length);
        for (int i = 0; i < 6; i++) {
            int due = row.length == 0 ? -2 : i < row.length ? row[i] : -3;
            test.due("round place " + i, x.round(t, i), due);
        }
    }

    /** What comes out, and the first thing and its length. */
    static void silenced(Tester test, NoEcho x, int[] sides, int n, int... due) {
        for (int what = 0; what <= 2; what++) {
            int got = x.silenced(sides[0], sides[1], sides[2], sides[3], n, what);
            test.due("silenced " + what + " of " + n, got, due[what]);
        }
    }
}
