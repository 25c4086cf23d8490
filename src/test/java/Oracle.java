import java.util.ArrayDeque;
import java.util.ArrayList;
import java.util.Arrays;
import java.util.HashSet;
import java.util.List;
import java.util.Set;
import java.util.TreeSet;

/**
 * The document once more, in its plainest form: texts are judged sign by sign with a stack of what is open, laws
 * are trees, and every search tries all rows. It is far too slow for long things; the tests keep them short.
 */
final class Oracle {
    private static final class Refused extends RuntimeException {
        private static final long serialVersionUID = 1L;

        Refused() {
            super(null, null, false, false);
        }
    }

    private interface Expression {
        int of(int[] m);
    }

    private interface Condition {
        boolean of(int[] m);
    }

    private record Clause(Expression price, Condition when) { }

    private record Sentence(int s, int t, int l) { }

    private static final String LETTERS = "ltscabrdk";
    private final List<Integer> tape = new ArrayList<>();
    private final List<TreeSet<Integer>> things = new ArrayList<>();
    private final List<List<Clause>> laws = new ArrayList<>();
    private int[] colours = new int[6];
    private List<Sentence> talk = new ArrayList<>();
    private int x = 1;
    private List<Sentence> keptTalk;
    private int[] keptColours;
    private int keptX;
    private String text;
    private int at;

    Oracle() {
        for (int t = 0; t < 12; t++) {
            things.add(new TreeSet<>());
        }
        laws.add(new ArrayList<>());
        laws.add(new ArrayList<>());
    }

    int feed(int... words) {
        if (tape.size() > 200) {
            return -1;
        }
        for (int word : words) {
            for (int i = 3; i >= 0; i--) {
                tape.add(word >>> 8 * i & 255);
            }
        }
        return tape.size();
    }

    private String takeText(int n) {
        StringBuilder builder = new StringBuilder();
        for (int i = 0; i < n; i++) {
            builder.append((char) (int) tape.get(i));
        }
        tape.clear();
        return builder.toString();
    }

    private int[] takeBytes(int n) {
        int[] bytes = new int[n];
        for (int i = 0; i < n; i++) {
            bytes[i] = tape.get(i);
        }
        tape.clear();
        return bytes;
    }

    private static boolean in(int value, int low, int high) {
        return value >= low && value <= high;
    }

    // ---- patterns

    int thing(int t, int n) {
        if (!in(t, 0, 11) || !in(n, 1, 60) || n > tape.size()) {
            return -1;
        }
        text = takeText(n);
        int fault = patternFault(text);
        if (fault != 0) {
            return fault;
        }
        at = 0;
        TreeSet<Integer> lengths = ways();
        lengths.remove(0);
        things.set(t, lengths);
        return lengths.size();
    }

    private static int patternFault(String text) {
        ArrayDeque<Character> open = new ArrayDeque<>();
        boolean begins = true;
        boolean bare = false;
        for (int i = 0; i < text.length(); i++) {
            char sign = text.charAt(i);
            if (sign >= 'a' && sign <= 'z') {
                begins = false;
                bare = true;
            } else if (sign == '(' || sign == '[') {
                if (open.size() == 6) {
                    return -5000 - i;
                }
                open.push(sign == '(' ? ')' : ']');
                begins = true;
            } else if ((sign == ')' || sign == ']') && !begins && !open.isEmpty() && open.peek() == sign) {
                open.pop();
                bare = true;
            } else if (sign == '|' && !begins) {
                begins = true;
            } else if ((sign == '+' || in(sign, '2', '9')) && !begins && bare) {
                bare = false;
            } else {
                return -1000 - i;
            }
        }
        return begins || !open.isEmpty() ? -1000 - text.length() : 0;
    }

    private char now() {
        return at < text.length() ? text.charAt(at) : 0;
    }

    private TreeSet<Integer> ways() {
        TreeSet<Integer> all = new TreeSet<>();
        TreeSet<Integer> way = new TreeSet<>(List.of(0));
        while (at < text.length() && now() != ')' && now() != ']') {
            if (now() == '|') {
                at++;
                all.addAll(way);
                way = new TreeSet<>(List.of(0));
            } else {
                way = sums(way, item());
            }
        }
        all.addAll(way);
        return all;
    }

    private TreeSet<Integer> item() {
        char sign = now();
        at++;
        TreeSet<Integer> one = new TreeSet<>(List.of(1));
        if (sign == '(' || sign == '[') {
            one = ways();
            at++;
            if (sign == '[') {
                one.add(0);
            }
        }
        char times = now();
        if (!in(times, '2', '9') && times != '+') {
            return one;
        }
        at++;
        TreeSet<Integer> all = new TreeSet<>();
        TreeSet<Integer> power = new TreeSet<>(List.of(0));
        for (int i = 1; i <= (times == '+' ? 30 : times - '0'); i++) {
            power = sums(power, one);
            all.addAll(power);
        }
        return times == '+' ? all : power;
    }

    private static TreeSet<Integer> sums(TreeSet<Integer> ones, TreeSet<Integer> others) {
        TreeSet<Integer> sums = new TreeSet<>();
        for (int one : ones) {
            for (int other : others) {
                if (one + other <= 24) {
                    sums.add(one + other);
                }
            }
        }
        return sums;
    }

    int lengths(int t) {
        return in(t, 0, 11) ? bitsOf(things.get(t)) : -1;
    }

    private static int bitsOf(Iterable<Integer> places) {
        int bits = 0;
        for (int place : places) {
            bits |= 1 << place;
        }
        return bits;
    }

    boolean colour(int s, int c) {
        if (!in(s, 0, 5) || !in(c, 0, 3)) {
            return false;
        }
        colours[s] = c;
        return true;
    }

    // ---- laws

    int law(int w, int n) {
        if (!in(w, 0, 1) || !in(n, 1, 200) || n > tape.size()) {
            return -1;
        }
        text = takeText(n);
        int fault = new LawJudge(text).fault();
        if (fault != 0) {
            return fault;
        }
        at = 0;
        List<Clause> clauses = new ArrayList<>();
        while (at < text.length()) {
            char letter = now();
            at++;
            Expression price = letter == 'p' ? sum() : null;
            at++;
            Condition when = condition();
            at += 2;
            clauses.add(new Clause(price, when));
        }
        laws.set(w, clauses);
        return clauses.size();
    }

    /** Reads a law sign by sign; the stack holds what is open: ( of a condition, ! and [. */
    private static final class LawJudge {
        private final String text;
        private final ArrayDeque<Character> open = new ArrayDeque<>();
        private String mode = "letter";
        private int side;
        private int digits;
        private int clauses;

        LawJudge(String text) {
            this.text = text;
        }

        int fault() {
            for (int i = 0; i < text.length(); i++) {
                int number = faultAt(text.charAt(i));
                if (number != 0) {
                    return -1000 * number - i;
                }
            }
            return mode.equals("clause ended") ? 0 : -1000 - text.length();
        }

        private int push(char sign, String next) {
            if (open.size() == 6) {
                return 5;
            }
            open.push(sign);
            mode = next;
            return 0;
        }

        private int to(boolean fits, String next) {
            mode = next;
            return fits ? 0 : 1;
        }

        private int faultAt(char sign) {
            switch (mode) {
                case "letter":
                    if (sign != 'n' && sign != 'p') {
                        return 1;
                    }
                    clauses++;
                    side = 0;
                    mode = sign == 'n' ? "open" : "factor";
                    return clauses > 14 ? 4 : 0;
                case "open":
                    return sign == '(' ? push(sign, "piece") : 1;
                case "piece":
                    if (sign == '!' || sign == '(') {
                        return push(sign, "piece");
                    }
                    side = 1;
                    return factor(sign);
                case "factor":
                    return factor(sign);
                case "number":
                    if (sign >= '0' && sign <= '9') {
                        digits++;
                        return digits > 5 ? 2 : 0;
                    }
                    return behindFactor(sign);
                case "behind factor":
                    return behindFactor(sign);
                case "behind piece":
                    return behindPiece(sign);
                default:
                    return to(sign == ';', "letter");
            }
        }

        private int factor(char sign) {
            if (sign == '[') {
                return push(sign, "factor");
            }
            if (sign >= '0' && sign <= '9') {
                digits = 1;
                mode = "number";
                return 0;
            }
            return to(LETTERS.indexOf(sign) >= 0, "behind factor");
        }

        private int behindFactor(char sign) {
            if ("+-*/%".indexOf(sign) >= 0) {
                mode = "factor";
                return 0;
            }
            if (!open.isEmpty() && open.peek() == '[') {
                open.pop();
                return to(sign == ']', "behind factor");
            }
            if (side == 0) {
                return sign == '(' ? push(sign, "piece") : 1;
            }
            if (side == 1) {
                side = 2;
                return to("<>=".indexOf(sign) >= 0, "factor");
            }
            endPiece();
            return behindPiece(sign);
        }

        private void endPiece() {
            while (!open.isEmpty() && open.peek() == '!') {
                open.pop();
            }
        }

        private int behindPiece(char sign) {
            if (sign == '&' || sign == '|') {
                mode = "piece";
                return 0;
            }
            if (sign != ')') {
                return 1;
            }
            open.pop();
            endPiece();
            mode = open.isEmpty() ? "clause ended" : "behind piece";
            return 0;
        }
    }

    private Condition condition() {
        List<Condition> parts = new ArrayList<>();
        parts.add(part());
        while (now() == '|') {
            at++;
            parts.add(part());
        }
        return m -> {
            for (Condition part : parts) {
                if (part.of(m)) {
                    return true;
                }
            }
            return false;
        };
    }

    private Condition part() {
        List<Condition> pieces = new ArrayList<>();
        pieces.add(piece());
        while (now() == '&') {
            at++;
            pieces.add(piece());
        }
        return m -> {
            for (Condition piece : pieces) {
                if (!piece.of(m)) {
                    return false;
                }
            }
            return true;
        };
    }

    private Condition piece() {
        if (now() == '!') {
            at++;
            Condition piece = piece();
            return m -> !piece.of(m);
        }
        if (now() == '(') {
            at++;
            Condition inner = condition();
            at++;
            return inner;
        }
        Expression left = sum();
        char sign = now();
        at++;
        Expression right = sum();
        return m -> {
            int one = left.of(m);
            int other = right.of(m);
            return sign == '<' ? one < other : sign == '>' ? one > other : one == other;
        };
    }

    private Expression sum() {
        Expression sum = product();
        while (now() == '+' || now() == '-') {
            char sign = now();
            at++;
            Expression left = sum;
            Expression right = product();
            sum = m -> sign == '+' ? left.of(m) + right.of(m) : left.of(m) - right.of(m);
        }
        return sum;
    }

    private Expression product() {
        Expression product = factor();
        while (now() == '*' || now() == '/' || now() == '%') {
            char sign = now();
            at++;
            Expression left = product;
            Expression right = factor();
            product = m -> {
                int one = left.of(m);
                int other = right.of(m);
                if (sign != '*' && other == 0) {
                    throw new Refused();
                }
                return sign == '*' ? one * other : sign == '/' ? one / other : one % other;
            };
        }
        return product;
    }

    private Expression factor() {
        if (now() == '[') {
            at++;
            Expression inner = sum();
            at++;
            return inner;
        }
        int letter = LETTERS.indexOf(now());
        if (letter >= 0) {
            at++;
            return m -> m[letter];
        }
        int from = at;
        while (now() >= '0' && now() <= '9') {
            at++;
        }
        int number = Integer.parseInt(text.substring(from, at));
        return m -> number;
    }

    // ---- what may be said

    private int[] moment(List<Sentence> ahead, Sentence one) {
        int k = ahead.size();
        Sentence last = k > 0 ? ahead.get(k - 1) : null;
        int b = k > 1 ? ahead.get(k - 2).l : 0;
        return new int[] {one.l, one.t, one.s, colours[one.s], last == null ? 0 : last.l, b,
            last == null ? 0 : last.s, last == null ? 0 : colours[last.s], k};
    }

    private static boolean holds(Clause clause, int[] m) {
        try {
            return clause.when.of(m);
        } catch (Refused refused) {
            return false;
        }
    }

    private boolean lets(int w, int[] m) {
        for (Clause clause : laws.get(w)) {
            if (clause.price == null && holds(clause, m)) {
                return false;
            }
        }
        return true;
    }

    private boolean lets(int w, List<Sentence> ahead, Sentence one) {
        return things.get(one.t).contains(one.l) && lets(w, moment(ahead, one));
    }

    private int pay(int i) {
        int[] m = moment(talk.subList(0, i), talk.get(i));
        for (Clause clause : laws.get(0)) {
            if (clause.price != null && holds(clause, m)) {
                try {
                    return Math.max(0, Math.min(999, clause.price.of(m)));
                } catch (Refused refused) {
                    return 0;
                }
            }
        }
        return 0;
    }

    int may(int w, int s, int t, int l) {
        if (!in(w, 0, 1) || !in(s, 0, 5) || !in(t, 0, 11)) {
            return -1;
        }
        if (!things.get(t).contains(l)) {
            return -2;
        }
        return lets(w, talk, new Sentence(s, t, l)) ? 1 : 0;
    }

    int ways(int w, int s, int t) {
        if (!in(w, 0, 1) || !in(s, 0, 5) || !in(t, 0, 11)) {
            return -1;
        }
        return bitsOf(lengthsNow(w, s, t));
    }

    private List<Integer> lengthsNow(int w, int s, int t) {
        List<Integer> lengths = new ArrayList<>();
        for (int l : things.get(t)) {
            if (lets(w, talk, new Sentence(s, t, l))) {
                lengths.add(l);
            }
        }
        return lengths;
    }

    int say(int s, int t, int l) {
        if (!in(s, 0, 5) || !in(t, 0, 11) || talk.size() == 200) {
            return -1;
        }
        int may = may(0, s, t, l);
        if (may == -2) {
            return -2;
        }
        if (may == 0) {
            return -3;
        }
        talk.add(new Sentence(s, t, l));
        return talk.size();
    }

    int said(int i, int what) {
        if (!in(i, 0, talk.size() - 1) || !in(what, 0, 3)) {
            return -1;
        }
        Sentence one = talk.get(i);
        return what == 0 ? one.s : what == 1 ? one.t : what == 2 ? one.l : pay(i);
    }

    int paid(int s) {
        if (!in(s, 0, 5)) {
            return -1;
        }
        int sum = 0;
        for (int i = 0; i < talk.size(); i++) {
            sum += talk.get(i).s == s ? pay(i) : 0;
        }
        return sum;
    }

    int judged(int w, int n) {
        if (!in(w, 0, 1) || !in(n, 1, 60) || 3 * n > tape.size()) {
            return -1;
        }
        int[] told = takeBytes(3 * n);
        List<Sentence> ahead = new ArrayList<>(talk);
        int wrong = n;
        for (int i = 0; i < n; i++) {
            if (!in(told[3 * i], 0, 5) || !in(told[3 * i + 1], 0, 11)) {
                return -2;
            }
            Sentence one = new Sentence(told[3 * i], told[3 * i + 1], told[3 * i + 2]);
            if (wrong == n && !lets(w, ahead, one)) {
                wrong = i;
            }
            ahead.add(one);
        }
        return wrong;
    }

    // ---- searches

    private int fewest;
    private int farthest;
    private int[] bestRow;

    int held(int which, int n, int what) {
        if (!in(which, 1, 3) || !in(n, 1, 12) || 2 * n > tape.size() || !in(what, -1, n - 1) && what != 20) {
            return -1;
        }
        int[] bytes = takeBytes(2 * n);
        int[] told = new int[3 * n];
        for (int i = 0; i < n; i++) {
            told[3 * i] = bytes[2 * i];
            told[3 * i + 1] = bytes[2 * i + 1];
        }
        return planned(which, 1, told, what);
    }

    int coded(int m, int n, int what) {
        if (!in(m, 2, 5) || !in(n, 1, 12) || 3 * n > tape.size() || !in(what, -1, n - 1) && what != 20) {
            return -1;
        }
        return planned(1, m, takeBytes(3 * n), what);
    }

    private int planned(int which, int m, int[] told, int what) {
        for (int i = 0; i < told.length; i += 3) {
            if (!in(told[i], 0, 5) || !in(told[i + 1], 0, 11) || told[i + 2] >= m) {
                return -3;
            }
        }
        fewest = Integer.MAX_VALUE;
        farthest = 0;
        plan(which, m, told, new ArrayList<>(talk), 0);
        if (what == 20) {
            return farthest;
        }
        if (fewest == Integer.MAX_VALUE) {
            return -2;
        }
        return what == -1 ? fewest : bestRow[what];
    }

    private void plan(int which, int m, int[] told, List<Sentence> ahead, int words) {
        int i = ahead.size() - talk.size();
        farthest = Math.max(farthest, i);
        if (3 * i == told.length) {
            if (words < fewest) {
                fewest = words;
                bestRow = new int[i];
                for (int j = 0; j < i; j++) {
                    bestRow[j] = ahead.get(talk.size() + j).l;
                }
            }
            return;
        }
        for (int l : things.get(told[3 * i + 1])) {
            Sentence one = new Sentence(told[3 * i], told[3 * i + 1], l);
            boolean fits = l % m == told[3 * i + 2];
            fits &= (which & 1) == 0 || lets(0, ahead, one);
            fits &= (which & 2) == 0 || lets(1, ahead, one);
            if (fits) {
                ahead.add(one);
                plan(which, m, told, ahead, words + l);
                ahead.remove(ahead.size() - 1);
            }
        }
    }

    private long rows;
    private int[] firstRow;
    private int[] seenThings;

    long heard(int n, int what) {
        if (!in(n, 1, 8) || 2 * n > tape.size() || !in(what, -1, n - 1) && !in(what, 10, 9 + n)) {
            return -1;
        }
        int[] told = takeBytes(2 * n);
        for (int i = 0; i < told.length; i += 2) {
            if (!in(told[i], 0, 5) || !in(told[i + 1], 1, 24)) {
                return -3;
            }
        }
        rows = 0;
        firstRow = null;
        seenThings = new int[n];
        hear(told, new ArrayList<>(talk));
        if (what == -1) {
            return rows;
        }
        if (what >= 10) {
            return seenThings[what - 10];
        }
        return rows == 0 ? -2 : firstRow[what];
    }

    private void hear(int[] told, List<Sentence> ahead) {
        int i = ahead.size() - talk.size();
        if (2 * i == told.length) {
            int[] row = new int[i];
            for (int j = 0; j < i; j++) {
                row[j] = ahead.get(talk.size() + j).t;
                seenThings[j] |= 1 << row[j];
            }
            firstRow = firstRow == null ? row : firstRow;
            rows++;
            return;
        }
        for (int t = 0; t < 12; t++) {
            Sentence one = new Sentence(told[2 * i], t, told[2 * i + 1]);
            if (lets(0, ahead, one)) {
                ahead.add(one);
                hear(told, ahead);
                ahead.remove(ahead.size() - 1);
            }
        }
    }

    int anyTalk(int bits, int n, int what) {
        int many = Integer.bitCount(bits);
        if (!in(bits, 1, 4095) || many > 4 || !in(n, 1, 5) || !in(what, -1, n - 1)) {
            return -3;
        }
        int[] kinds = new int[many];
        int filled = 0;
        for (int t = 0; t < 12; t++) {
            if ((bits >> t & 1) != 0) {
                kinds[filled++] = t;
            }
        }
        int all = (int) Math.round(Math.pow(many, n));
        for (int number = 0; number < all; number++) {
            int[] row = new int[n];
            int rest = number;
            for (int i = n - 1; i >= 0; i--) {
                row[i] = kinds[rest % many];
                rest /= many;
            }
            if (!canBeHeld(row, new ArrayList<>(talk))) {
                return what == -1 ? 0 : row[what];
            }
        }
        return what == -1 ? 1 : -2;
    }

    private boolean canBeHeld(int[] row, List<Sentence> ahead) {
        int i = ahead.size() - talk.size();
        if (i == row.length) {
            return true;
        }
        for (int l : things.get(row[i])) {
            Sentence one = new Sentence(i % 2, row[i], l);
            if (lets(0, ahead, one)) {
                ahead.add(one);
                boolean can = canBeHeld(row, ahead);
                ahead.remove(ahead.size() - 1);
                if (can) {
                    return true;
                }
            }
        }
        return false;
    }

    int silenced(int s, int mine, int q, int others, int n, int what) {
        boolean fits = in(s, 0, 5) && in(q, 0, 5) && s != q && in(mine, 0, 4095) && in(others, 0, 4095);
        if (!fits || !in(n, 1, 6) || !in(what, 0, 2)) {
            return -3;
        }
        int[] first = {-2, -2};
        int value = play(new int[] {s, q}, new int[] {mine, others}, n, new ArrayList<>(talk), first);
        return what == 0 ? value : first[what - 1];
    }

    private int play(int[] who, int[] bits, int n, List<Sentence> ahead, int[] first) {
        int i = ahead.size() - talk.size();
        if (i == n) {
            return 0;
        }
        int best = -2;
        for (int t = 0; t < 12; t++) {
            for (int l : things.get(t)) {
                Sentence one = new Sentence(who[i % 2], t, l);
                if ((bits[i % 2] >> t & 1) != 0 && lets(0, ahead, one)) {
                    ahead.add(one);
                    int value = -play(who, bits, n, ahead, null);
                    ahead.remove(ahead.size() - 1);
                    if (value > best) {
                        best = value;
                        if (first != null) {
                            first[0] = t;
                            first[1] = l;
                        }
                    }
                }
            }
        }
        return best == -2 ? -1 : best;
    }

    int waited(int speakers, int l) {
        if (!in(speakers, 1, 63) || !in(l, 1, 24)) {
            return -1;
        }
        Set<List<Sentence>> talks = new HashSet<>();
        talks.add(new ArrayList<>(talk));
        for (int many = 0; many <= 5; many++) {
            Set<List<Sentence>> longer = new HashSet<>();
            for (List<Sentence> ahead : talks) {
                if (saysAll(speakers, l, ahead, longer)) {
                    return many;
                }
            }
            talks = longer;
        }
        return -2;
    }

    /**
     * Whether a length may be said; else all talks that are one sentence longer. Of a talk only its size and its
     * last two sentences are asked, so what was said ahead of them is put alike to keep the set small.
     */
    private boolean saysAll(int speakers, int l, List<Sentence> ahead, Set<List<Sentence>> longer) {
        for (int s = 0; s < 6; s++) {
            for (int t = 0; t < 12; t++) {
                for (int length : things.get(t)) {
                    Sentence one = new Sentence(s, t, length);
                    if ((speakers >> s & 1) != 0 && lets(0, ahead, one)) {
                        if (length == l) {
                            return true;
                        }
                        List<Sentence> next = new ArrayList<>(ahead);
                        for (int i = talk.size(); i < next.size(); i++) {
                            next.set(i, new Sentence(0, 0, i == next.size() - 1 ? next.get(i).l : 0));
                        }
                        next.add(new Sentence(s, 0, length));
                        longer.add(next);
                    }
                }
            }
        }
        return false;
    }

    int round(int t, int what) {
        if (!in(t, 0, 11) || !in(what, -1, 5)) {
            return -3;
        }
        Integer[] lengths = things.get(t).toArray(new Integer[0]);
        for (int n = 2; n <= 6; n += 2) {
            long all = Math.round(Math.pow(lengths.length, n));
            for (long number = 0; number < all; number++) {
                int[] row = new int[n];
                long rest = number;
                for (int i = n - 1; i >= 0; i--) {
                    row[i] = lengths[(int) (rest % lengths.length)];
                    rest /= lengths.length;
                }
                if (goesRound(t, row)) {
                    return what == -1 ? n : what < n ? row[what] : -3;
                }
            }
        }
        return -2;
    }

    private boolean goesRound(int t, int[] row) {
        int n = row.length;
        for (int i = 0; i < n; i++) {
            int s = i % 2;
            int[] m = {row[i], t, s, colours[s], row[(i + n - 1) % n], row[(i + n - 2) % n], 1 - s, colours[1 - s],
                talk.size()};
            if (!lets(0, m)) {
                return false;
            }
        }
        return true;
    }

    // ---- chance, kept, checked, counted

    boolean seed(int seed) {
        if (!in(seed, 0, 65535)) {
            return false;
        }
        x = seed;
        return true;
    }

    int draw(int n) {
        if (!in(n, 1, 20)) {
            return -1;
        }
        int drawn = 0;
        for (int i = 0; i < n; i++) {
            x = (int) ((25173L * x + 13849L) % 65536L);
            int s = x % 6;
            int t = x / 6 % 12;
            List<Integer> lengths = lengthsNow(0, s, t);
            if (!lengths.isEmpty() && talk.size() < 200) {
                talk.add(new Sentence(s, t, lengths.get(x / 72 % lengths.size())));
                drawn++;
            }
        }
        return drawn;
    }

    int keep() {
        keptTalk = new ArrayList<>(talk);
        keptColours = colours.clone();
        keptX = x;
        return talk.size();
    }

    boolean undo() {
        if (keptTalk == null) {
            return false;
        }
        talk = new ArrayList<>(keptTalk);
        colours = keptColours.clone();
        x = keptX;
        return true;
    }

    int check(int n) {
        if (!in(n, 0, 20) || n > talk.size() || 4 * n > tape.size()) {
            return -2;
        }
        int[] bytes = takeBytes(4 * n);
        for (int i = 0; i < n; i++) {
            int number = 0;
            for (int j = 0; j < 4; j++) {
                number = number * 256 + bytes[4 * i + j];
            }
            if (number != talk.get(talk.size() - n + i).l) {
                return i;
            }
        }
        return -1;
    }

    int count(int what) {
        int size = talk.size();
        if (in(what, 10, 15)) {
            return colours[what - 10];
        }
        if (in(what, 20, 25)) {
            return (int) talk.stream().filter(one -> one.s == what - 20).count();
        }
        switch (what) {
            case 0:
                return size;
            case 1:
                return talk.stream().mapToInt(one -> one.l).sum();
            case 2:
            case 3:
                return laws.get(what - 2).size();
            case 4:
                return tape.size();
            case 5:
                return x;
            case 6:
                int[] bits = {0};
                for (int t = 0; t < 12; t++) {
                    bits[0] |= things.get(t).isEmpty() ? 0 : 1 << t;
                }
                return bits[0];
            case 7:
                return size > 0 ? talk.get(size - 1).l : 0;
            case 8:
                return size > 1 ? talk.get(size - 2).l : 0;
            default:
                return -1;
        }
    }

    @Override
    public String toString() {
        return things + " " + talk + " " + Arrays.toString(colours);
    }
}
