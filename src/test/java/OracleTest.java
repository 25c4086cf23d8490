import java.util.Random;

/** Runs of calls by chance (the same ones each time), answered by the class and by the plain oracle. */
public final class OracleTest {
    private static final int RUNS = 300;
    private static final int CALLS = 120;
    private static final int SEARCHES = 40;

    private final Tester test;
    private final Random random;
    private final int run;
    private final NoEcho x = new NoEcho();
    private final Oracle y = new Oracle();
    private final StringBuilder told = new StringBuilder();
    private final int kindLimit;

    private OracleTest(Tester test, int run) {
        this.test = test;
        this.run = run;
        this.random = new Random(run);
        this.kindLimit = 1 + random.nextInt(4);
    }

    public static void main(String[] args) {
        Tester test = new Tester("OracleTest");
        int from = args.length > 0 ? Integer.parseInt(args[0]) : 0;
        int to = args.length > 1 ? Integer.parseInt(args[1]) : RUNS;
        for (int run = from; run < to; run++) {
            new OracleTest(test, run).go();
            new OracleTest(test, run + 1000000).search();
        }
        test.end();
    }

    private void go() {
        for (int i = 0; i < kindLimit; i++) {
            newThing(i * 11 / Math.max(1, kindLimit - 1), shortPattern());
        }
        newLaw(0, lawText());
        if (chance(2)) {
            newLaw(1, lawText());
        }
        for (int i = 0; i < CALLS; i++) {
            oneCall();
        }
        everything();
    }

    /** Laws that mix some letters as if by chance: what a search leaves out of its keys comes to light. */
    private void search() {
        for (int i = 0; i < SEARCHES; i++) {
            if (i % 4 == 0) {
                for (int j = 0; j < kindLimit; j++) {
                    newThing(j * 11 / Math.max(1, kindLimit - 1), lowPattern());
                }
                newLaw(0, mixedLaw());
                newLaw(1, mixedLaw());
                colourCall();
                sayCall();
            }
            switch (i % 6) {
                case 0: heldCall(); break;
                case 1: codedCall(); break;
                case 2: anyTalkCall(); break;
                case 3: silencedCall(); break;
                case 4: waitedCall(); break;
                default: roundCall(); break;
            }
        }
    }

    private String lowPattern() {
        StringBuilder text = new StringBuilder();
        for (int l = 1; l <= 5; l++) {
            if (chance(2)) {
                text.append(text.length() == 0 ? "" : "|").append("aaaaa", 0, l);
            }
        }
        return text.length() == 0 ? "a|bb|ccc" : text.toString();
    }

    private String mixedLaw() {
        if (chance(4)) {
            // goes round after so many steps only
            int steps = 2 + below(5);
            String ahead = chance(2) ? "a" : "b";
            return "n(" + ahead + ">0&!l%" + steps + "=[" + ahead + "+" + (1 + below(2)) + "]%" + steps + ")";
        }
        StringBuilder text = new StringBuilder("n([l*").append(1 + below(9));
        String letters = "aabbtscrdk";
        for (int i = below(4); i >= 0; i--) {
            text.append("+").append(letters.charAt(below(letters.length()))).append("*").append(1 + below(9));
        }
        int modulus = 2 + below(11);
        text.append("]%").append(modulus).append(">").append(below(modulus)).append(")");
        return text.append(chance(4) ? ";n(l=a)" : chance(6) ? ";n(l=b)" : "").toString();
    }

    private boolean chance(int of) {
        return random.nextInt(of) == 0;
    }

    private int below(int bound) {
        return random.nextInt(bound);
    }

    private void due(String call, long got, long want) {
        told.append(call).append(" = ").append(got).append("\n");
        if (got != want) {
            System.out.println("run " + run + "\n" + told + y);
        }
        test.due("run " + run + ": " + call, got, want);
        if (got != want) {
            test.end();
        }
    }

    /** Mostly a number below a bound, now and then one beyond it. */
    private int about(int bound) {
        int[] odd = {-1, bound, bound + 1, -2, Integer.MIN_VALUE, Integer.MAX_VALUE, 64, 1 << 30};
        return chance(25) ? odd[below(odd.length)] : below(bound);
    }

    private int someThing() {
        return chance(12) ? about(12) : below(kindLimit) * 11 / Math.max(1, kindLimit - 1);
    }

    private int someThings() {
        int bits = chance(10) ? below(4096) : 0;
        for (int i = below(4); i >= 0; i--) {
            bits |= 1 << (someThing() & 31);
        }
        return bits;
    }

    private void feed(int[] bytes) {
        if (y.count(4) != 0 && !chance(6)) {
            due("check(0)", x.check(0), y.check(0));
        }
        for (int from = 0; from < bytes.length; from += 20) {
            int[] w = new int[5];
            for (int i = 0; i < 20; i++) {
                int value = from + i < bytes.length ? bytes[from + i] : chance(3) ? below(256) : 0;
                w[i / 4] |= (value & 255) << 24 - 8 * (i % 4);
            }
            due("feed", x.feed(w[0], w[1], w[2], w[3], w[4]), y.feed(w));
        }
    }

    private void feedText(String text) {
        int[] bytes = new int[text.length()];
        for (int i = 0; i < bytes.length; i++) {
            bytes[i] = text.charAt(i);
        }
        feed(bytes);
        told.append("text ").append(text).append("\n");
    }

    private void newThing(int t, String text) {
        feedText(text);
        int n = chance(60) ? about(70) : text.length();
        due("thing(" + t + ", " + n + ")", x.thing(t, n), y.thing(t, n));
    }

    private void newLaw(int w, String text) {
        feedText(text);
        int n = chance(60) ? about(220) : text.length();
        due("law(" + w + ", " + n + ")", x.law(w, n), y.law(w, n));
    }

    // ---- texts

    /** At most four lengths, so that the oracle comes to an end. */
    private String shortPattern() {
        String[] some = {"a", "a|bb", "a|bb|ccc", "[a]b", "bb|ccc", "a5|b", "(a|bbb)2", "a9a9a6|b", "[a2]b3|c", "(ab)2",
            "a3|b5|c7", "[a][b]c", "(a8)2[b4]", "dddd", "a|b6", "ccccc", "a2|b4", "[a][b][c]d", "a|bb|cccc", "[a3]b2"};
        return some[below(some.length)];
    }

    private String anyPattern(int depth) {
        StringBuilder text = new StringBuilder();
        int ways = 1 + (chance(3) ? 1 : 0);
        for (int i = 0; i < ways; i++) {
            text.append(i == 0 ? "" : "|");
            for (int items = below(3); items >= 0; items--) {
                boolean inner = depth > 0 && chance(2);
                boolean square = chance(3);
                String part = inner ? anyPattern(depth - 1) : "";
                text.append(!inner ? "" + (char) ('a' + below(26)) : square ? "[" + part + "]" : "(" + part + ")");
                text.append(chance(4) ? "" + (char) ('2' + below(8)) : chance(8) ? "+" : "");
            }
        }
        return text.length() > 60 ? text.substring(0, 60) : text.toString();
    }

    private String spoiled(String text, String signs) {
        StringBuilder spoiled = new StringBuilder(text);
        for (int i = 1 + below(2); i > 0; i--) {
            int place = below(spoiled.length() + 1);
            char sign = signs.charAt(below(signs.length()));
            if (chance(2) && place < spoiled.length()) {
                spoiled.deleteCharAt(place);
            } else if (place < spoiled.length() && chance(2)) {
                spoiled.setCharAt(place, sign);
            } else {
                spoiled.insert(place, sign);
            }
        }
        return spoiled.length() == 0 ? "(" : spoiled.length() > 200 ? spoiled.substring(0, 200) : spoiled.toString();
    }

    private String expression(int depth) {
        StringBuilder text = new StringBuilder();
        int terms = 1 + (chance(3) ? 1 : 0) + (chance(8) ? 1 : 0);
        for (int i = 0; i < terms; i++) {
            text.append(i == 0 ? "" : chance(2) ? "+" : "-");
            int factors = 1 + (chance(4) ? 1 : 0) + (chance(10) ? 1 : 0);
            for (int j = 0; j < factors; j++) {
                text.append(j == 0 ? "" : "" + "*/%".charAt(below(3)));
                boolean inner = depth > 0 && chance(6);
                text.append(inner ? "[" + expression(depth - 1) + "]" : factor());
            }
        }
        return text.toString();
    }

    private String factor() {
        if (chance(3)) {
            return "" + below(chance(8) ? 100000 : 7);
        }
        return chance(3) ? "l" : chance(3) ? "a" : "" + "ltscabrdk".charAt(below(9));
    }

    private String condition(int depth) {
        StringBuilder text = new StringBuilder();
        int pieces = 1 + below(3) * below(2);
        for (int i = 0; i < pieces; i++) {
            text.append(i == 0 ? "" : chance(3) ? "|" : "&");
            text.append(chance(5) ? "!" : "").append(chance(9) ? "!" : "");
            if (depth > 0 && chance(5)) {
                text.append("(").append(condition(depth - 1)).append(")");
            } else {
                text.append(expression(1)).append("<>=".charAt(below(3))).append(expression(1));
            }
        }
        return text.toString();
    }

    /** Which length may follow which: few ones, so that searches have to go far. */
    private String tableLaw() {
        StringBuilder text = new StringBuilder("n(a>0&!(");
        String letters = chance(4) ? "sl" : chance(3) ? "bl" : chance(4) ? "kl" : chance(5) ? "rl" : "al";
        for (int i = 2 + below(6); i >= 0; i--) {
            text.append('a').append('=').append(1 + below(4)).append("&l=").append(1 + below(5));
            if (!letters.equals("al")) {
                text.append('&').append(letters.charAt(0)).append(chance(2) ? '>' : '<').append(1 + below(4));
            }
            text.append(i == 0 ? "))" : "|");
        }
        return text.toString();
    }

    private String lawText() {
        if (chance(3)) {
            return tableLaw() + (chance(3) ? ";n(k=" + below(5) + "&l>2)" : "");
        }
        String[] some = {"n(l=a)", "n(l=a|l=b)", "n(l<a)", "n(l=a);n(s=r&k>0)", "n(l>a+1)", "n(l%2=a%2)", "n(c=d)",
            "n(l+a+b>9)", "n(l=a&t=1);p2*l(0=0)", "n((l-a)*(l-a)=1)", "n(k%3=l%3)", "n(l-a=1|a-l=1)", "n(r=s)",
            "n(!(l=a+1|l<a))", "n(l/a=1)", "n(6%[l-a]=0)", "p5(l=1)"};
        StringBuilder text = new StringBuilder(chance(3) ? some[below(some.length)] : "");
        for (int i = text.length() == 0 ? 0 : 1; i < 1 + below(3); i++) {
            text.append(text.length() == 0 ? "" : ";");
            text.append(chance(3) ? "p" + expression(2) : "n").append("(").append(condition(2)).append(")");
        }
        return text.length() > 200 ? "n(l=a)" : text.toString();
    }

    private String manyClauses() {
        StringBuilder text = new StringBuilder();
        for (int i = 13 + below(3); i >= 0; i--) {
            text.append(text.length() == 0 ? "" : ";").append(chance(2) ? "n(l=a)" : "p" + below(9) + "(l=b)");
        }
        return text.toString();
    }

    private String deepLaw() {
        StringBuilder text = new StringBuilder("n(");
        StringBuilder tail = new StringBuilder();
        for (int i = below(8); i > 0; i--) {
            boolean round = chance(2);
            text.append(round ? "(" : "!");
            tail.append(round ? ")" : "");
        }
        StringBuilder left = new StringBuilder();
        int square = below(8) * below(2);
        left.append("[".repeat(square)).append("l").append("]".repeat(square));
        return text.append(left).append("=a").append(tail).append(")").toString();
    }

    // ---- calls

    private int speaker() {
        return about(6);
    }

    private void oneCall() {
        switch (below(32)) {
            case 0: newThing(someThing(), chance(3) ? spoiled(shortPattern(), "ab()[]|+2913") : shortPattern()); break;
            case 1: checkPattern(); break;
            case 2: case 3: newLaw(chance(15) ? about(2) : below(2), chance(2) ? lawText() : spoiledLaw()); break;
            case 4: colourCall(); break;
            case 5: mayCall(); break;
            case 6: waysCall(); break;
            case 7: case 8: case 9: sayCall(); break;
            case 10: saidCall(); break;
            case 11: paidCall(); break;
            case 12: case 13: judgedCall(); break;
            case 14: case 15: heldCall(); break;
            case 16: case 17: codedCall(); break;
            case 18: case 19: heardCall(); break;
            case 20: case 21: anyTalkCall(); break;
            case 22: case 23: silencedCall(); break;
            case 24: case 25: waitedCall(); break;
            case 26: case 27: roundCall(); break;
            case 28: drawCall(); break;
            case 29: keepCall(); break;
            case 30: checkCall(); break;
            default: countCall(); break;
        }
    }

    /** Long patterns are tried on a thing that is made short again at once. */
    private void checkPattern() {
        int t = below(12);
        String text = anyPattern(chance(6) ? 6 : 2);
        newThing(t, chance(3) ? spoiled(text, "ab()[]|+29103 A") : text);
        due("lengths(" + t + ")", x.lengths(t), y.lengths(t));
        boolean used = t * Math.max(1, kindLimit - 1) % 11 == 0;
        newThing(t, used ? shortPattern() : "a9a9a9");
    }

    private String spoiledLaw() {
        return spoiled(chance(4) ? manyClauses() : chance(3) ? deepLaw() : lawText(), "np()[]!&|<>=+-*/%;0123456789ltscabrdkxz ");
    }

    private void colourCall() {
        int s = speaker();
        int c = about(4);
        due("colour(" + s + ", " + c + ")", x.colour(s, c) ? 1 : 0, y.colour(s, c) ? 1 : 0);
    }

    private void mayCall() {
        int w = about(2);
        int s = speaker();
        int t = someThing();
        int l = someLength(t);
        due("may(" + w + ", " + s + ", " + t + ", " + l + ")", x.may(w, s, t, l), y.may(w, s, t, l));
    }

    private void waysCall() {
        int w = about(2);
        int s = speaker();
        int t = someThing();
        due("ways(" + w + ", " + s + ", " + t + ")", x.ways(w, s, t), y.ways(w, s, t));
    }

    private void sayCall() {
        int s = speaker();
        int t = someThing();
        int l = someLength(t);
        due("say(" + s + ", " + t + ", " + l + ")", x.say(s, t, l), y.say(s, t, l));
    }

    private void saidCall() {
        int i = chance(9) ? about(200) : below(Math.max(1, y.count(0)));
        int what = about(4);
        due("said(" + i + ", " + what + ")", x.said(i, what), y.said(i, what));
    }

    private void paidCall() {
        int s = speaker();
        due("paid(" + s + ")", x.paid(s), y.paid(s));
    }

    /** Mostly a length that the thing has. */
    private int someLength(int t) {
        int bits = t >= 0 && t < 12 ? y.lengths(t) : 0;
        if (bits == 0 || chance(6)) {
            return about(10);
        }
        int l = below(25);
        while ((bits >> l & 1) == 0) {
            l = (l + 1) % 25;
        }
        return l;
    }

    private int told(int bound, int spoil) {
        return chance(spoil) ? below(256) : below(bound);
    }

    private int toldThing() {
        return chance(60) ? below(256) : someThing() & 15;
    }

    private void judgedCall() {
        int w = about(2);
        int n = 1 + below(chance(9) ? 60 : 5);
        int[] bytes = new int[3 * n];
        for (int i = 0; i < n; i++) {
            bytes[3 * i] = told(6, 80);
            bytes[3 * i + 1] = toldThing();
            bytes[3 * i + 2] = someLength(bytes[3 * i + 1]);
        }
        feed(bytes);
        int many = chance(20) ? about(70) : n;
        due("judged(" + w + ", " + many + ")", x.judged(w, many), y.judged(w, many));
    }

    private int what(int n) {
        return chance(3) ? -1 : chance(4) ? 20 : about(n);
    }

    private void heldCall() {
        int which = 1 + about(3);
        int n = 1 + below(6);
        int[] bytes = new int[2 * n];
        for (int i = 0; i < n; i++) {
            bytes[2 * i] = told(6, 80);
            bytes[2 * i + 1] = toldThing();
        }
        feed(bytes);
        int many = chance(20) ? about(8) : n;
        int what = what(n);
        due("held(" + which + ", " + many + ", " + what + ")", x.held(which, many, what), y.held(which, many, what));
    }

    private void codedCall() {
        int m = chance(15) ? about(7) : 2 + below(4);
        int n = 1 + below(7);
        int[] bytes = new int[3 * n];
        for (int i = 0; i < n; i++) {
            bytes[3 * i] = told(6, 80);
            bytes[3 * i + 1] = toldThing();
            bytes[3 * i + 2] = chance(40) ? below(256) : Math.floorMod(someLength(bytes[3 * i + 1]), Math.max(1, m));
        }
        feed(bytes);
        int many = chance(20) ? about(8) : n;
        int what = what(n);
        due("coded(" + m + ", " + many + ", " + what + ")", x.coded(m, many, what), y.coded(m, many, what));
    }

    private void heardCall() {
        int n = 1 + below(5);
        int[] bytes = new int[2 * n];
        for (int i = 0; i < n; i++) {
            bytes[2 * i] = told(6, 80);
            bytes[2 * i + 1] = someLength(someThing());
        }
        feed(bytes);
        int many = chance(20) ? about(8) : n;
        int what = chance(2) ? what(n) : 10 + about(n);
        due("heard(" + many + ", " + what + ")", x.heard(many, what), y.heard(many, what));
    }

    private void anyTalkCall() {
        int bits = someThings();
        int n = chance(12) ? about(7) : 1 + below(5);
        int what = chance(3) ? -1 : chance(12) ? about(6) : below(Math.max(1, Math.min(n, 5)));
        due("anyTalk(" + bits + ", " + n + ", " + what + ")", x.anyTalk(bits, n, what), y.anyTalk(bits, n, what));
    }

    private void silencedCall() {
        int s = speaker();
        int q = chance(9) ? speaker() : (Math.max(0, s) + 1 + below(5)) % 6;
        int mine = chance(12) ? 0 : someThings();
        int others = chance(12) ? 0 : someThings();
        int n = chance(12) ? about(9) : 1 + below(Integer.bitCount(mine | others) > 2 ? 4 : 6);
        int what = about(3);
        String call = "silenced(" + s + ", " + mine + ", " + q + ", " + others + ", " + n + ", " + what + ")";
        due(call, x.silenced(s, mine, q, others, n, what), y.silenced(s, mine, q, others, n, what));
    }

    private void waitedCall() {
        int speakers = chance(5) ? about(64) : 1 << below(6) | 1 << below(6);
        int l = chance(9) ? about(25) : someLength(someThing());
        due("waited(" + speakers + ", " + l + ")", x.waited(speakers, l), y.waited(speakers, l));
    }

    private void roundCall() {
        int t = someThing();
        int what = chance(2) ? -1 : about(7) - 1;
        due("round(" + t + ", " + what + ")", x.round(t, what), y.round(t, what));
    }

    private void drawCall() {
        if (chance(2)) {
            int seed = chance(9) ? about(65536) : below(65536);
            due("seed(" + seed + ")", x.seed(seed) ? 1 : 0, y.seed(seed) ? 1 : 0);
        }
        int n = 1 + about(20);
        due("draw(" + n + ")", x.draw(n), y.draw(n));
    }

    private void keepCall() {
        if (chance(2)) {
            due("keep()", x.keep(), y.keep());
        } else {
            due("undo()", x.undo() ? 1 : 0, y.undo() ? 1 : 0);
        }
    }

    private void checkCall() {
        int size = y.count(0);
        int n = Math.min(size, below(6));
        int[] bytes = new int[4 * Math.max(1, n)];
        for (int i = 0; i < n; i++) {
            bytes[4 * i + 3] = chance(12) ? below(25) : y.said(size - n + i, 2);
            bytes[4 * i + below(3)] = chance(30) ? 1 : 0;
        }
        feed(bytes);
        int many = chance(9) ? about(25) : n;
        due("check(" + many + ")", x.check(many), y.check(many));
    }

    private void countCall() {
        int what = about(30);
        due("count(" + what + ")", x.count(what), y.count(what));
    }

    private void everything() {
        for (int what = -1; what < 30; what++) {
            due("count(" + what + ")", x.count(what), y.count(what));
        }
        for (int i = 0; i < y.count(0); i++) {
            for (int what = 0; what < 4; what++) {
                due("said(" + i + ", " + what + ")", x.said(i, what), y.said(i, what));
            }
        }
        for (int t = 0; t < 12; t++) {
            due("lengths(" + t + ")", x.lengths(t), y.lengths(t));
        }
        for (int s = 0; s < 6; s++) {
            due("paid(" + s + ")", x.paid(s), y.paid(s));
        }
    }
}
