/**
 * A tongue whose things are said in so many words, laws of lengths that say which sentence may follow,
 * and the talk that was said so far. The document's promises stand at the public methods by their numbers.
 */
public final class NoEcho {
    public static final int NONE = -1;

    private static final int THINGS = 12;
    private static final int SPEAKERS = 6;
    private static final int COLOURS = 4;
    private static final int LONGEST = 24;
    private static final int ALL_LENGTHS = 0x1FFFFFE;
    private static final int ALL_THINGS = 0xFFF;
    private static final int ALL_SPEAKERS = 63;
    private static final int TALK_LIMIT = 200;
    private static final int TAPE_LIMIT = 220;
    private static final int FEED_BYTES = 20;
    private static final int PATTERN_LIMIT = 60;
    private static final int LAW_LIMIT = 200;
    private static final int CLAUSE_LIMIT = 14;
    private static final int OPEN_LIMIT = 6;
    private static final int JUDGED_LIMIT = 60;
    private static final int HELD_LIMIT = 12;
    private static final int HEARD_LIMIT = 8;
    private static final int ANY_TALK_LIMIT = 5;
    private static final int ANY_TALK_THINGS = 4;
    private static final int SILENCED_LIMIT = 6;
    private static final int WAITED_LIMIT = 5;
    private static final int ROUND_LIMIT = 6;
    private static final int DRAW_LIMIT = 20;
    private static final int CHECK_LIMIT = 20;
    private static final int SEED_BOUND = 65536;
    private static final int AT_MOST = 20;
    private static final int BITS_FROM = 10;
    private static final int COLOUR_FROM = 10;
    private static final int SAID_BY_FROM = 20;

    private static final int NOT_SO = -2;
    private static final int NO_SUCH = -3;

    private static final int FAULT_SIGN = 1;
    private static final int FAULT_DIGIT = 2;
    private static final int FAULT_CLAUSE = 4;
    private static final int FAULT_OPEN = 5;

    /** Lengths 0 to 24 stand in rows of this size; 0 is a last sentence that is not there. */
    private static final int WIDTH = 25;
    private static final int PAIRS = WIDTH * WIDTH;

    private static final String LETTERS = "ltscabrdk";
    private static final int LETTER_COUNT = 9;
    private static final int L = 0;
    private static final int T = 1;
    private static final int S = 2;
    private static final int C = 3;
    private static final int A = 4;
    private static final int B = 5;
    private static final int R = 6;
    private static final int D = 7;
    private static final int K = 8;

    private static final int ADD = 1;
    private static final int SUB = 2;
    private static final int MUL = 3;
    private static final int DIV = 4;
    private static final int MOD = 5;
    private static final int LESS = 6;
    private static final int MORE = 7;
    private static final int SAME = 8;
    private static final int NOT = 9;
    private static final int JUMP_IF = 10;
    private static final int JUMP_IF_NOT = 11;

    private final Tape tape;
    private final Reader reader;
    private final Tongue tongue;
    private final Talk talk;
    private final Talk keptTalk;
    private final int[] keptColours;
    private final Holding holding;
    private final AnyTalk anyTalks;
    private final Silencing silencing;
    private final Waiting waiting;
    private final Rounding rounding;
    private int seedNow;
    private int keptSeed;
    private boolean isKept;

    /** Promise 1. */
    public NoEcho() {
        Tape ownTape = new Tape();
        Tongue ownTongue = new Tongue();
        Memo memo = new Memo();
        tape = ownTape;
        reader = new Reader(ownTape);
        tongue = ownTongue;
        talk = new Talk();
        keptTalk = new Talk();
        keptColours = new int[SPEAKERS];
        holding = new Holding(ownTongue, memo);
        anyTalks = new AnyTalk(ownTongue, memo);
        silencing = new Silencing(ownTongue, memo);
        waiting = new Waiting(ownTongue);
        rounding = new Rounding(ownTongue, memo);
        seedNow = 1;
    }

    /** Promise 2. */
    public int feed(int a, int b, int c, int d, int e) {
        if (tape.fed + FEED_BYTES > TAPE_LIMIT) {
            return NONE;
        }
        tape.append(a);
        tape.append(b);
        tape.append(c);
        tape.append(d);
        tape.append(e);
        return tape.fed;
    }

    /** Promise 3. */
    public int thing(int t, int n) {
        if (!isThing(t) || !isOnTape(n, PATTERN_LIMIT, 1)) {
            return NONE;
        }
        int bits = reader.readPattern(n);
        tape.clear();
        if (bits < 0) {
            return bits;
        }
        tongue.setSizes(t, bits);
        return Integer.bitCount(bits);
    }

    /** Promise 4. */
    public int lengths(int t) {
        return isThing(t) ? tongue.sizesOf(t) : NONE;
    }

    /** Promise 5. */
    public boolean colour(int s, int c) {
        if (!isSpeaker(s) || c < 0 || c >= COLOURS) {
            return false;
        }
        tongue.setColour(s, c);
        return true;
    }

    /** Promise 6. */
    public int law(int w, int n) {
        if (!isLaw(w) || !isOnTape(n, LAW_LIMIT, 1)) {
            return NONE;
        }
        int clauses = reader.readLaw(n, tongue.spare);
        tape.clear();
        if (clauses >= 0) {
            tongue.takeSpare(w);
        }
        return clauses;
    }

    /** Promise 7. */
    public int may(int w, int s, int t, int l) {
        if (!isLaw(w) || !isSpeaker(s) || !isThing(t)) {
            return NONE;
        }
        int bit = tongue.bitOf(t, l);
        if (bit == 0) {
            return NOT_SO;
        }
        standNow();
        return tongue.lets(1 << w, s, t, bit) == 0 ? 0 : 1;
    }

    /** Promise 8. */
    public int ways(int w, int s, int t) {
        if (!isLaw(w) || !isSpeaker(s) || !isThing(t)) {
            return NONE;
        }
        standNow();
        return tongue.lets(1 << w, s, t, tongue.sizesOf(t));
    }

    /** Promise 9. */
    public int say(int s, int t, int l) {
        if (!isSpeaker(s) || !isThing(t) || talk.size >= TALK_LIMIT) {
            return NONE;
        }
        int bit = tongue.bitOf(t, l);
        if (bit == 0) {
            return NOT_SO;
        }
        standNow();
        if (tongue.lets(1, s, t, bit) == 0) {
            return NO_SUCH;
        }
        talk.add(s, t, l);
        return talk.size;
    }

    /** Promise 10. */
    public int said(int i, int what) {
        if (i < 0 || i >= talk.size) {
            return NONE;
        }
        switch (what) {
            case 0:
                return talk.speakerAt(i);
            case 1:
                return talk.thingAt(i);
            case 2:
                return talk.spanAt(i);
            case 3:
                return payOf(i);
            default:
                return NONE;
        }
    }

    /** Promise 11. */
    public int paid(int s) {
        if (!isSpeaker(s)) {
            return NONE;
        }
        int sum = 0;
        for (int i = 0; i < talk.size; i++) {
            if (talk.speakerAt(i) == s) {
                sum += payOf(i);
            }
        }
        return sum;
    }

    /** Promise 12. */
    public int judged(int w, int n) {
        if (!isLaw(w) || !isOnTape(n, JUDGED_LIMIT, 3)) {
            return NONE;
        }
        int answer = tellsSpeakersAndThings(n, 3) ? firstWrong(w, n) : NOT_SO;
        tape.clear();
        return answer;
    }

    /** Promise 13. */
    public int held(int laws, int n, int what) {
        if (laws < 1 || laws > 3 || !isOnTape(n, HELD_LIMIT, 2) || !isHeldPlace(n, what)) {
            return NONE;
        }
        int answer = NO_SUCH;
        if (tellsSpeakersAndThings(n, 2)) {
            holding.begin(laws, 1, n);
            for (int i = 0; i < n; i++) {
                holding.tell(i, tape.byteAt(2 * i), tape.byteAt(2 * i + 1), 0);
            }
            answer = holding.answer(talk, what);
        }
        tape.clear();
        return answer;
    }

    /** Promise 14. */
    public int coded(int m, int n, int what) {
        if (m < 2 || m > 5 || !isOnTape(n, HELD_LIMIT, 3) || !isHeldPlace(n, what)) {
            return NONE;
        }
        int answer = NO_SUCH;
        if (tellsSpeakersAndThings(n, 3) && tellsDigits(m, n)) {
            holding.begin(1, m, n);
            for (int i = 0; i < n; i++) {
                holding.tell(i, tape.byteAt(3 * i), tape.byteAt(3 * i + 1), tape.byteAt(3 * i + 2));
            }
            answer = holding.answer(talk, what);
        }
        tape.clear();
        return answer;
    }

    /** Promise 15. */
    public long heard(int n, int what) {
        if (!isOnTape(n, HEARD_LIMIT, 2) || !isHeardPlace(n, what)) {
            return NONE;
        }
        long answer = tellsSpeakersAndLengths(n) ? heardAnswer(n, what) : NO_SUCH;
        tape.clear();
        return answer;
    }

    /** Promise 16. */
    public int anyTalk(int things, int n, int what) {
        int kinds = Integer.bitCount(things);
        boolean areThings = (things & ~ALL_THINGS) == 0 && kinds >= 1 && kinds <= ANY_TALK_THINGS;
        if (!areThings || n < 1 || n > ANY_TALK_LIMIT || what < NONE || what >= n) {
            return NO_SUCH;
        }
        return anyTalks.answer(talk, things, n, what);
    }

    /** Promise 17. */
    public int silenced(int s, int things, int q, int others, int n, int what) {
        boolean areSpeakers = isSpeaker(s) && isSpeaker(q) && s != q;
        boolean areThings = (things & ~ALL_THINGS) == 0 && (others & ~ALL_THINGS) == 0;
        if (!areSpeakers || !areThings || n < 1 || n > SILENCED_LIMIT || what < 0 || what > 2) {
            return NO_SUCH;
        }
        silencing.begin(talk, n);
        silencing.tell(s, things, q, others);
        return silencing.answer(what);
    }

    /** Promise 18. */
    public int waited(int speakers, int l) {
        if (speakers < 1 || speakers > ALL_SPEAKERS || l < 1 || l > LONGEST) {
            return NONE;
        }
        return waiting.answer(talk, speakers, l);
    }

    /** Promise 19. */
    public int round(int t, int what) {
        if (!isThing(t) || what < NONE || what >= ROUND_LIMIT) {
            return NO_SUCH;
        }
        return rounding.answer(t, talk.size, what);
    }

    /** Promise 20. */
    public boolean seed(int x) {
        if (x < 0 || x >= SEED_BOUND) {
            return false;
        }
        seedNow = x;
        return true;
    }

    /** Promise 21. */
    public int draw(int n) {
        if (n < 1 || n > DRAW_LIMIT) {
            return NONE;
        }
        int drawn = 0;
        for (int i = 0; i < n; i++) {
            seedNow = (25173 * seedNow + 13849) % SEED_BOUND;
            if (drawOne()) {
                drawn++;
            }
        }
        return drawn;
    }

    /** Promise 22. */
    public int keep() {
        keptTalk.copyFrom(talk);
        System.arraycopy(tongue.colours, 0, keptColours, 0, SPEAKERS);
        keptSeed = seedNow;
        isKept = true;
        return talk.size;
    }

    /** Promise 23. */
    public boolean undo() {
        if (!isKept) {
            return false;
        }
        talk.copyFrom(keptTalk);
        System.arraycopy(keptColours, 0, tongue.colours, 0, SPEAKERS);
        seedNow = keptSeed;
        return true;
    }

    /** Promise 24. */
    public int check(int n) {
        if (n < 0 || n > CHECK_LIMIT || n > talk.size || 4 * n > tape.fed) {
            return NOT_SO;
        }
        int answer = NONE;
        for (int i = 0; i < n && answer == NONE; i++) {
            if (tape.numberAt(i) != talk.spanAt(talk.size - n + i)) {
                answer = i;
            }
        }
        tape.clear();
        return answer;
    }

    /** Promise 25. */
    public int count(int what) {
        if (what >= COLOUR_FROM && what < COLOUR_FROM + SPEAKERS) {
            return tongue.colourOf(what - COLOUR_FROM);
        }
        if (what >= SAID_BY_FROM && what < SAID_BY_FROM + SPEAKERS) {
            return talk.saidBy(what - SAID_BY_FROM);
        }
        switch (what) {
            case 0:
                return talk.size;
            case 1:
                return talk.words;
            case 2:
                return tongue.first.clauses;
            case 3:
                return tongue.second.clauses;
            case 4:
                return tape.fed;
            case 5:
                return seedNow;
            case 6:
                return tongue.sayable();
            case 7:
                return talk.spanAt(talk.size - 1);
            case 8:
                return talk.spanAt(talk.size - 2);
            default:
                return NONE;
        }
    }

    private static boolean isThing(int t) {
        return t >= 0 && t < THINGS;
    }

    private static boolean isSpeaker(int s) {
        return s >= 0 && s < SPEAKERS;
    }

    private static boolean isLaw(int w) {
        return w == 0 || w == 1;
    }

    private static boolean isHeldPlace(int n, int what) {
        return what == NONE || what == AT_MOST || (what >= 0 && what < n);
    }

    private static boolean isHeardPlace(int n, int what) {
        return (what >= NONE && what < n) || (what >= BITS_FROM && what < BITS_FROM + n);
    }

    /** Whether n is from 1 to its limit and so many groups of bytes are on the tape. */
    private boolean isOnTape(int n, int limit, int group) {
        return n >= 1 && n <= limit && n * group <= tape.fed;
    }

    private boolean tellsSpeakersAndThings(int n, int group) {
        for (int i = 0; i < n; i++) {
            if (!isSpeaker(tape.byteAt(group * i)) || !isThing(tape.byteAt(group * i + 1))) {
                return false;
            }
        }
        return true;
    }

    private boolean tellsDigits(int m, int n) {
        for (int i = 0; i < n; i++) {
            if (tape.byteAt(3 * i + 2) >= m) {
                return false;
            }
        }
        return true;
    }

    private boolean tellsSpeakersAndLengths(int n) {
        for (int i = 0; i < n; i++) {
            int l = tape.byteAt(2 * i + 1);
            if (!isSpeaker(tape.byteAt(2 * i)) || l < 1 || l > LONGEST) {
                return false;
            }
        }
        return true;
    }

    private void standNow() {
        tongue.stand(talk.spanAt(talk.size - 1), talk.spanAt(talk.size - 2), talk.speakerAt(talk.size - 1), talk.size);
    }

    private int payOf(int i) {
        tongue.stand(talk.spanAt(i - 1), talk.spanAt(i - 2), talk.speakerAt(i - 1), i);
        return tongue.pays(talk.speakerAt(i), talk.thingAt(i), talk.spanAt(i));
    }

    private int firstWrong(int w, int n) {
        int a = talk.spanAt(talk.size - 1);
        int b = talk.spanAt(talk.size - 2);
        int r = talk.speakerAt(talk.size - 1);
        for (int i = 0; i < n; i++) {
            int s = tape.byteAt(3 * i);
            int t = tape.byteAt(3 * i + 1);
            int l = tape.byteAt(3 * i + 2);
            tongue.stand(a, b, r, talk.size + i);
            if (tongue.lets(1 << w, s, t, tongue.bitOf(t, l)) == 0) {
                return i;
            }
            b = a;
            a = l;
            r = s;
        }
        return n;
    }

    /** The things of the places don't touch one another: a law asks only who spoke and how long it was. */
    private long heardAnswer(int n, int what) {
        long rows = 1;
        int asked = 0;
        int a = talk.spanAt(talk.size - 1);
        int b = talk.spanAt(talk.size - 2);
        int r = talk.speakerAt(talk.size - 1);
        for (int i = 0; i < n && rows > 0; i++) {
            int s = tape.byteAt(2 * i);
            int l = tape.byteAt(2 * i + 1);
            tongue.stand(a, b, r, talk.size + i);
            int bits = tongue.thingsIn(s, l);
            rows *= Integer.bitCount(bits);
            if (what == i || what == BITS_FROM + i) {
                asked = bits;
            }
            b = a;
            a = l;
            r = s;
        }
        if (what == NONE) {
            return rows;
        }
        if (what >= BITS_FROM) {
            return rows == 0 ? 0 : asked;
        }
        return rows == 0 ? NOT_SO : placeOfBit(asked, 0);
    }

    private boolean drawOne() {
        int s = seedNow % SPEAKERS;
        int t = seedNow / SPEAKERS % THINGS;
        standNow();
        int bits = tongue.lets(1, s, t, tongue.sizesOf(t));
        int choices = Integer.bitCount(bits);
        if (choices == 0 || talk.size >= TALK_LIMIT) {
            return false;
        }
        talk.add(s, t, placeOfBit(bits, seedNow / (SPEAKERS * THINGS) % choices));
        return true;
    }

    /** The place of a set bit that has so many set bits below it; NONE if there is none. */
    private static int placeOfBit(int bits, int below) {
        int left = below;
        for (int i = 0; i < WIDTH; i++) {
            if ((bits >> i & 1) != 0) {
                if (left == 0) {
                    return i;
                }
                left--;
            }
        }
        return NONE;
    }

    /** The bytes that were fed, and a head that reads a text of them from the left. */
    private static final class Tape {
        private final int[] bytes = new int[TAPE_LIMIT];
        private int fed;
        private int at;
        private int end;
        private int fault;

        void append(int word) {
            for (int shift = 24; shift >= 0; shift -= 8) {
                if (fed < bytes.length) {
                    bytes[fed] = word >> shift & 255;
                    fed++;
                }
            }
        }

        void clear() {
            fed = 0;
        }

        int byteAt(int i) {
            return i >= 0 && i < fed && i < bytes.length ? bytes[i] : 0;
        }

        int numberAt(int i) {
            int from = 4 * i;
            return byteAt(from) << 24 | byteAt(from + 1) << 16 | byteAt(from + 2) << 8 | byteAt(from + 3);
        }

        void startText(int n) {
            at = 0;
            end = Math.min(n, fed);
            fault = 0;
        }

        /** The sign under the head; NONE at the end and behind a fault, so that nobody reads on there. */
        int sign() {
            return fault == 0 && at >= 0 && at < end && at < bytes.length ? bytes[at] : NONE;
        }

        void step() {
            if (at < end) {
                at++;
            }
        }

        boolean takes(int sign) {
            boolean same = sign() == sign;
            if (same) {
                step();
            }
            return same;
        }

        void expect(int sign) {
            if (sign() == sign) {
                step();
            } else {
                fail(FAULT_SIGN);
            }
        }

        void endText() {
            if (at < end) {
                fail(FAULT_SIGN);
            }
        }

        /** The first fault stays. */
        void fail(int number) {
            if (fault == 0) {
                fault = -1000 * number - at;
            }
        }

        boolean isSound() {
            return fault == 0;
        }
    }

    /** Reads patterns and laws from the tape; open tells how many brackets (and !) stand open. */
    private static final class Reader {
        private final Tape tape;
        private Law law;

        Reader(Tape tape) {
            this.tape = tape;
            this.law = new Law();
        }

        /** Lengths as bits, or a fault (below 0). */
        int readPattern(int n) {
            tape.startText(n);
            int bits = readWays(0);
            tape.endText();
            return tape.isSound() ? bits & ALL_LENGTHS : tape.fault;
        }

        /** Bit 0 is nothing at all: it counts inside a pattern, and is left out at its end. */
        private int readWays(int open) {
            int bits = readWay(open);
            for (int i = 0; i < PATTERN_LIMIT && tape.takes('|'); i++) {
                bits |= readWay(open);
            }
            return bits;
        }

        private int readWay(int open) {
            int bits = readItem(open);
            for (int i = 0; i < PATTERN_LIMIT && beginsItem(tape.sign()); i++) {
                bits = joined(bits, readItem(open));
            }
            return bits;
        }

        private static boolean beginsItem(int sign) {
            return isWord(sign) || sign == '(' || sign == '[';
        }

        private static boolean isWord(int sign) {
            return sign >= 'a' && sign <= 'z';
        }

        private int readItem(int open) {
            int sign = tape.sign();
            int bits = 2;
            if (!beginsItem(sign)) {
                tape.fail(FAULT_SIGN);
                return 0;
            }
            if (!isWord(sign)) {
                if (open >= OPEN_LIMIT) {
                    tape.fail(FAULT_OPEN);
                    return 0;
                }
                tape.step();
                bits = readWays(open + 1);
                tape.expect(sign == '(' ? ')' : ']');
                bits = sign == '[' ? bits | 1 : bits;
            } else {
                tape.step();
            }
            return readTimes(bits);
        }

        private int readTimes(int bits) {
            int sign = tape.sign();
            if (sign == '+') {
                tape.step();
                int all = bits;
                for (int i = 1; i < LONGEST; i++) {
                    all |= joined(all, bits);
                }
                return all;
            }
            int all = bits;
            if (sign >= '2' && sign <= '9') {
                tape.step();
                for (int i = '1'; i < sign; i++) {
                    all = joined(all, bits);
                }
            }
            return all;
        }

        private static int joined(int ahead, int behind) {
            int bits = 0;
            for (int i = 0; i < WIDTH; i++) {
                if ((behind >> i & 1) != 0) {
                    bits |= ahead << i;
                }
            }
            return bits & (ALL_LENGTHS | 1);
        }

        /** How many clauses, or a fault (below 0); then what the law holds is of no use. */
        int readLaw(int n, Law into) {
            law = into;
            law.clear();
            tape.startText(n);
            readClause();
            for (int i = 0; i < LAW_LIMIT && tape.takes(';'); i++) {
                readClause();
            }
            tape.endText();
            return tape.isSound() ? law.clauses : tape.fault;
        }

        private void readClause() {
            int letter = tape.sign();
            if (letter != 'n' && letter != 'p') {
                tape.fail(FAULT_SIGN);
                return;
            }
            if (law.clauses >= CLAUSE_LIMIT) {
                tape.fail(FAULT_CLAUSE);
                return;
            }
            tape.step();
            law.openPrice();
            int price = letter == 'p' ? readSum(0) : NONE;
            law.openCondition();
            tape.expect('(');
            readCondition(1);
            tape.expect(')');
            law.closeClause(price);
        }

        private void readCondition(int open) {
            int jumps = NONE;
            readPart(open);
            for (int i = 0; i < LAW_LIMIT && tape.takes('|'); i++) {
                jumps = law.jump(JUMP_IF, jumps);
                readPart(open);
            }
            law.land(jumps);
        }

        private void readPart(int open) {
            int jumps = NONE;
            readPiece(open);
            for (int i = 0; i < LAW_LIMIT && tape.takes('&'); i++) {
                jumps = law.jump(JUMP_IF_NOT, jumps);
                readPiece(open);
            }
            law.land(jumps);
        }

        private void readPiece(int open) {
            int sign = tape.sign();
            if (sign != '!' && sign != '(') {
                int left = readSum(open);
                int op = comparison(tape.sign());
                if (op == NONE) {
                    tape.fail(FAULT_SIGN);
                    return;
                }
                tape.step();
                law.emit(op, left, readSum(open));
                return;
            }
            if (open >= OPEN_LIMIT) {
                tape.fail(FAULT_OPEN);
                return;
            }
            tape.step();
            if (sign == '!') {
                readPiece(open + 1);
                law.emit(NOT, 0, 0);
            } else {
                readCondition(open + 1);
                tape.expect(')');
            }
        }

        private static int comparison(int sign) {
            switch (sign) {
                case '<':
                    return LESS;
                case '>':
                    return MORE;
                case '=':
                    return SAME;
                default:
                    return NONE;
            }
        }

        /** The register in which the sum will stand. */
        private int readSum(int open) {
            int sum = readTerm(open);
            for (int i = 0; i < LAW_LIMIT && (tape.sign() == '+' || tape.sign() == '-'); i++) {
                int op = tape.sign() == '+' ? ADD : SUB;
                tape.step();
                sum = law.emit(op, sum, readTerm(open));
            }
            return sum;
        }

        private int readTerm(int open) {
            int product = readFactor(open);
            int op = operation(tape.sign());
            for (int i = 0; i < LAW_LIMIT && op != NONE; i++) {
                tape.step();
                product = law.emit(op, product, readFactor(open));
                op = operation(tape.sign());
            }
            return product;
        }

        private static int operation(int sign) {
            switch (sign) {
                case '*':
                    return MUL;
                case '/':
                    return DIV;
                case '%':
                    return MOD;
                default:
                    return NONE;
            }
        }

        private int readFactor(int open) {
            int sign = tape.sign();
            if (isDigit(sign)) {
                return law.constant(readNumber());
            }
            if (sign == '[') {
                if (open >= OPEN_LIMIT) {
                    tape.fail(FAULT_OPEN);
                    return 0;
                }
                tape.step();
                int sum = readSum(open + 1);
                tape.expect(']');
                return sum;
            }
            int letter = isWord(sign) ? LETTERS.indexOf((char) sign) : NONE;
            if (letter < 0) {
                tape.fail(FAULT_SIGN);
                return 0;
            }
            tape.step();
            return law.letter(letter);
        }

        private static boolean isDigit(int sign) {
            return sign >= '0' && sign <= '9';
        }

        private int readNumber() {
            int number = 0;
            for (int i = 0; i < 5 && isDigit(tape.sign()); i++) {
                number = number * 10 + tape.sign() - '0';
                tape.step();
            }
            if (isDigit(tape.sign())) {
                tape.fail(FAULT_DIGIT);
            }
            return number;
        }
    }

    /**
     * A law as a row of small steps over registers: the first nine are the letters, then each number and
     * each result has one of its own, of which 200 bytes of text can't fill the room.
     */
    private static final class Law {
        private static final int ROOM = 256;
        private static final int HOLDS = 1;
        private static final int FAILS = 0;
        private static final int REFUSED = -1;

        private final int[] code = new int[ROOM];
        private final int[] registers = new int[ROOM];
        private final int[] priceFrom = new int[CLAUSE_LIMIT];
        private final int[] conditionFrom = new int[CLAUSE_LIMIT];
        private final int[] conditionTo = new int[CLAUSE_LIMIT];
        private final int[] price = new int[CLAUSE_LIMIT];
        private final int[] letters = new int[CLAUSE_LIMIT];
        private int size;
        private int next;
        private int clauses;
        private int lettersNow;
        private int banLetters;

        void clear() {
            size = 0;
            next = LETTER_COUNT;
            clauses = 0;
            banLetters = 0;
        }

        void openPrice() {
            if (clauses < CLAUSE_LIMIT) {
                priceFrom[clauses] = size;
            }
        }

        void openCondition() {
            if (clauses < CLAUSE_LIMIT) {
                conditionFrom[clauses] = size;
            }
            lettersNow = 0;
        }

        void closeClause(int priceRegister) {
            if (clauses < CLAUSE_LIMIT) {
                conditionTo[clauses] = size;
                price[clauses] = priceRegister;
                letters[clauses] = lettersNow;
                clauses++;
            }
            if (priceRegister == NONE) {
                banLetters |= lettersNow;
            }
        }

        int letter(int which) {
            lettersNow |= 1 << which;
            return which;
        }

        int constant(int number) {
            int register = next;
            if (register < ROOM) {
                registers[register] = number;
                next++;
            }
            return register;
        }

        /** The register of the result. */
        int emit(int op, int x, int y) {
            int register = next;
            if (size < ROOM && register < ROOM) {
                code[size] = op | x << 4 | y << 12 | register << 20;
                size++;
                next++;
            }
            return register;
        }

        /** A jump whose target is not known yet holds the jump ahead of it (one more than its place). */
        int jump(int op, int ahead) {
            int place = size;
            if (place < ROOM) {
                code[place] = op | ahead + 1 << 4;
                size++;
            }
            return place;
        }

        void land(int jumps) {
            int place = jumps;
            for (int i = 0; i < ROOM && place >= 0 && place < ROOM; i++) {
                int ahead = (code[place] >> 4) - 1;
                code[place] = code[place] & 15 | size << 4;
                place = ahead;
            }
        }

        private int run(int from, int to) {
            int holds = FAILS;
            int at = from;
            for (int i = 0; i < ROOM && at >= 0 && at < to && at < ROOM; i++) {
                int step = code[at];
                int x = registers[step >> 4 & 255];
                int y = registers[step >> 12 & 255];
                int result = step >> 20 & 255;
                at++;
                switch (step & 15) {
                    case ADD:
                        registers[result] = x + y;
                        break;
                    case SUB:
                        registers[result] = x - y;
                        break;
                    case MUL:
                        registers[result] = x * y;
                        break;
                    case DIV:
                        if (y == 0) {
                            return REFUSED;
                        }
                        registers[result] = x / y;
                        break;
                    case MOD:
                        if (y == 0) {
                            return REFUSED;
                        }
                        registers[result] = x % y;
                        break;
                    case LESS:
                        holds = x < y ? HOLDS : FAILS;
                        break;
                    case MORE:
                        holds = x > y ? HOLDS : FAILS;
                        break;
                    case SAME:
                        holds = x == y ? HOLDS : FAILS;
                        break;
                    case NOT:
                        holds = holds == HOLDS ? FAILS : HOLDS;
                        break;
                    case JUMP_IF:
                        at = holds == HOLDS ? step >> 4 : at;
                        break;
                    default:
                        at = holds == HOLDS ? at : step >> 4;
                        break;
                }
            }
            return holds;
        }

        /** Those of some lengths (bits) that no clause forbids. */
        int allowed(int[] moment, int lengths) {
            System.arraycopy(moment, 0, registers, 0, LETTER_COUNT);
            int left = lengths;
            for (int i = 0; i < clauses && i < CLAUSE_LIMIT && left != 0; i++) {
                boolean bans = price[i] == NONE;
                boolean asksLength = (letters[i] & 1 << L) != 0;
                if (bans && !asksLength && run(conditionFrom[i], conditionTo[i]) == HOLDS) {
                    left = 0;
                }
                for (int l = 1; bans && asksLength && l <= LONGEST; l++) {
                    registers[L] = l;
                    if ((left >> l & 1) != 0 && run(conditionFrom[i], conditionTo[i]) == HOLDS) {
                        left &= ~(1 << l);
                    }
                }
            }
            return left;
        }

        int pay(int[] moment) {
            System.arraycopy(moment, 0, registers, 0, LETTER_COUNT);
            for (int i = 0; i < clauses && i < CLAUSE_LIMIT; i++) {
                int register = price[i];
                if (register >= 0 && register < ROOM && run(conditionFrom[i], conditionTo[i]) == HOLDS) {
                    boolean refused = run(priceFrom[i], conditionFrom[i]) == REFUSED;
                    return refused ? 0 : Math.max(0, Math.min(999, registers[register]));
                }
            }
            return 0;
        }
    }

    /** What things can be said in, colours, laws, and the moment at which a law is asked. */
    private static final class Tongue {
        private final int[] sizes = new int[THINGS];
        private final int[] colours = new int[SPEAKERS];
        private final int[] moment = new int[LETTER_COUNT];
        private Law first = new Law();
        private Law second = new Law();
        private Law spare = new Law();

        int sizesOf(int t) {
            return isThing(t) ? sizes[t] : 0;
        }

        void setSizes(int t, int bits) {
            if (isThing(t)) {
                sizes[t] = bits;
            }
        }

        int bitOf(int t, int l) {
            return l >= 1 && l <= LONGEST ? sizesOf(t) & 1 << l : 0;
        }

        int sayable() {
            int bits = 0;
            for (int t = 0; t < THINGS; t++) {
                bits |= sizes[t] != 0 ? 1 << t : 0;
            }
            return bits;
        }

        int allSizes() {
            int bits = 0;
            for (int t = 0; t < THINGS; t++) {
                bits |= sizes[t];
            }
            return bits;
        }

        int colourOf(int s) {
            return isSpeaker(s) ? colours[s] : 0;
        }

        void setColour(int s, int c) {
            if (isSpeaker(s)) {
                colours[s] = c;
            }
        }

        void takeSpare(int w) {
            Law old = w == 0 ? first : second;
            if (w == 0) {
                first = spare;
            } else {
                second = spare;
            }
            spare = old;
        }

        /** The letters (bits) that some laws ask of what is said. */
        int asks(int laws) {
            int letters = (laws & 1) != 0 ? first.banLetters : 0;
            return (laws & 2) != 0 ? letters | second.banLetters : letters;
        }

        /** Of some speakers (bits) the first of each kind that some letters (bits) tell apart. */
        int differing(int speakers, int letters) {
            boolean asksWho = (letters & (1 << S | 1 << R)) != 0;
            boolean asksColour = (letters & (1 << C | 1 << D)) != 0;
            int bits = 0;
            int coloursSeen = 0;
            for (int s = 0; s < SPEAKERS; s++) {
                int kind = 1 << (asksColour ? colours[s] : 0);
                if ((speakers >> s & 1) != 0 && (asksWho || (coloursSeen & kind) == 0)) {
                    bits |= 1 << s;
                    coloursSeen |= kind;
                }
            }
            return bits;
        }

        /** What was said ahead; r is NONE if nothing was. */
        void stand(int a, int b, int r, int k) {
            moment[A] = a;
            moment[B] = b;
            moment[R] = Math.max(0, r);
            moment[D] = colourOf(r);
            moment[K] = k;
        }

        /** Those of some lengths (bits) in which a speaker may say a thing at this moment. */
        int lets(int laws, int s, int t, int lengths) {
            moment[S] = s;
            moment[C] = colourOf(s);
            moment[T] = t;
            int left = lengths;
            if ((laws & 1) != 0) {
                left = first.allowed(moment, left);
            }
            if ((laws & 2) != 0) {
                left = second.allowed(moment, left);
            }
            return left;
        }

        /** Those of some lengths (bits) in which a speaker may say any of some things (bits), by law 0. */
        int letsAny(int s, int things, int lengths) {
            boolean asksThing = (first.banLetters & 1 << T) != 0;
            int bits = 0;
            for (int t = 0; t < THINGS; t++) {
                if ((things >> t & 1) != 0) {
                    int more = sizes[t] & lengths & ~bits;
                    bits |= asksThing && more != 0 ? lets(1, s, t, more) : more;
                }
            }
            return asksThing || bits == 0 ? bits : lets(1, s, 0, bits);
        }

        /** Things (bits) that a speaker may say in a length, by law 0. */
        int thingsIn(int s, int l) {
            int bits = 0;
            for (int t = 0; t < THINGS; t++) {
                int bit = bitOf(t, l);
                if (bit != 0 && lets(1, s, t, bit) != 0) {
                    bits |= 1 << t;
                }
            }
            return bits;
        }

        int pays(int s, int t, int l) {
            moment[S] = s;
            moment[C] = colourOf(s);
            moment[T] = t;
            moment[L] = l;
            return first.pay(moment);
        }
    }

    /** Sentences that were said. */
    private static final class Talk {
        private final int[] speakers = new int[TALK_LIMIT];
        private final int[] things = new int[TALK_LIMIT];
        private final int[] spans = new int[TALK_LIMIT];
        private int size;
        private int words;

        void add(int s, int t, int l) {
            if (size < TALK_LIMIT) {
                speakers[size] = s;
                things[size] = t;
                spans[size] = l;
                size++;
                words += l;
            }
        }

        private boolean has(int i) {
            return i >= 0 && i < size && i < TALK_LIMIT;
        }

        int speakerAt(int i) {
            return has(i) ? speakers[i] : NONE;
        }

        int thingAt(int i) {
            return has(i) ? things[i] : NONE;
        }

        int spanAt(int i) {
            return has(i) ? spans[i] : 0;
        }

        int saidBy(int s) {
            int sum = 0;
            for (int i = 0; i < size && i < TALK_LIMIT; i++) {
                sum += speakers[i] == s ? 1 : 0;
            }
            return sum;
        }

        void copyFrom(Talk other) {
            System.arraycopy(other.speakers, 0, speakers, 0, TALK_LIMIT);
            System.arraycopy(other.things, 0, things, 0, TALK_LIMIT);
            System.arraycopy(other.spans, 0, spans, 0, TALK_LIMIT);
            size = other.size;
            words = other.words;
        }
    }

    /** Answers that one search has found, by a key; the stamp makes those of earlier searches strange. */
    private static final class Memo {
        private static final int ROOM = ANY_TALK_LIMIT * ANY_TALK_THINGS * PAIRS;

        private final long[] cells = new long[ROOM];
        private int stamp;

        void begin() {
            stamp++;
        }

        boolean has(int key) {
            return key >= 0 && key < ROOM && cells[key] >> 32 == stamp;
        }

        int get(int key) {
            return key >= 0 && key < ROOM ? (int) cells[key] : 0;
        }

        void put(int key, int value) {
            if (key >= 0 && key < ROOM) {
                cells[key] = (long) stamp << 32 | value & 0xFFFFFFFFL;
            }
        }
    }

    /** Held and coded: from each place on the fewest words, by the two lengths ahead of it. */
    private static final class Holding {
        private final Tongue tongue;
        private final Memo memo;
        private final int[] speakers = new int[HELD_LIMIT];
        private final int[] things = new int[HELD_LIMIT];
        private final int[] lengths = new int[HELD_LIMIT];
        private final int[] least = new int[HELD_LIMIT + 1];
        private int laws;
        private int modulus;
        private int n;
        private int lastSpeaker;
        private int saidAhead;
        private int deepest;
        private boolean asksA;
        private boolean asksB;

        Holding(Tongue tongue, Memo memo) {
            this.tongue = tongue;
            this.memo = memo;
        }

        void begin(int laws, int modulus, int n) {
            this.laws = laws;
            this.modulus = modulus;
            this.n = Math.max(0, Math.min(n, HELD_LIMIT));
            int letters = tongue.asks(laws);
            asksB = (letters & 1 << B) != 0;
            asksA = asksB || (letters & 1 << A) != 0;
        }

        void tell(int i, int speaker, int t, int digit) {
            if (i < 0 || i >= HELD_LIMIT) {
                return;
            }
            int bits = 0;
            for (int l = 1; l <= LONGEST; l++) {
                bits |= modulus > 0 && l % modulus == digit ? 1 << l : 0;
            }
            speakers[i] = speaker;
            things[i] = t;
            lengths[i] = tongue.sizesOf(t) & bits;
        }

        int answer(Talk talk, int what) {
            memo.begin();
            lastSpeaker = talk.speakerAt(talk.size - 1);
            saidAhead = talk.size;
            deepest = 0;
            sumLeast();
            int a = talk.spanAt(talk.size - 1);
            int b = talk.spanAt(talk.size - 2);
            int words = fewest(0, a, b);
            if (what == AT_MOST) {
                return deepest;
            }
            if (words < 0) {
                return NOT_SO;
            }
            return what == NONE ? words : lengthAt(what, a, b);
        }

        /** No row from a place on has fewer words than the least length of each thing together. */
        private void sumLeast() {
            for (int i = HELD_LIMIT; i >= 0; i--) {
                least[i] = i < n ? least[i + 1] + Math.max(0, placeOfBit(lengths[i], 0)) : 0;
            }
        }

        private int keyOf(int i, int a, int b) {
            return i * PAIRS + (asksA ? a * WIDTH : 0) + (asksB ? b : 0);
        }

        /** Words from place i on; NONE if it can't be. */
        private int fewest(int i, int a, int b) {
            deepest = Math.max(deepest, i);
            if (i < 0 || i >= n || i >= HELD_LIMIT) {
                return 0;
            }
            int key = keyOf(i, a, b);
            if (memo.has(key)) {
                return memo.get(key) >> 5;
            }
            tongue.stand(a, b, i == 0 ? lastSpeaker : speakers[i - 1], saidAhead + i);
            int bits = tongue.lets(laws, speakers[i], things[i], lengths[i]);
            int best = NONE;
            int bestLength = 0;
            for (int l = 1; l <= LONGEST; l++) {
                if (best >= 0 && l + least[i + 1] >= best) {
                    break;
                }
                int rest = (bits >> l & 1) != 0 ? fewest(i + 1, l, a) : NONE;
                if (rest >= 0 && (best < 0 || l + rest < best)) {
                    best = l + rest;
                    bestLength = l;
                }
            }
            memo.put(key, best << 5 | bestLength);
            return best;
        }

        private int lengthAt(int what, int a, int b) {
            int last = a;
            int ahead = b;
            for (int i = 0; i <= what && i < n; i++) {
                int length = memo.get(keyOf(i, last, ahead)) & 31;
                ahead = last;
                last = length;
            }
            return last;
        }
    }

    /**
     * Any talk: rows of things are tried in their order, and for each the pairs of last lengths that it can
     * end in are known as bits of a in a row of b.
     */
    private static final class AnyTalk {
        private static final int GOODS = 8;

        private final Tongue tongue;
        private final Memo memo;
        private final int[] reach = new int[(ANY_TALK_LIMIT + 1) * WIDTH];
        private final int[] good = new int[ANY_TALK_LIMIT * GOODS * WIDTH];
        private final int[] goods = new int[ANY_TALK_LIMIT];
        private final int[] row = new int[ANY_TALK_LIMIT];
        private final int[] kinds = new int[ANY_TALK_THINGS];
        private int kindCount;
        private int n;
        private int lastSpeaker;
        private int saidAhead;
        private boolean asksA;
        private boolean asksB;
        private boolean asksK;

        AnyTalk(Tongue tongue, Memo memo) {
            this.tongue = tongue;
            this.memo = memo;
        }

        int answer(Talk talk, int things, int n, int what) {
            begin(talk, things, n);
            boolean breaks = breaks(0);
            if (what == NONE) {
                return breaks ? 0 : 1;
            }
            if (!breaks) {
                return NOT_SO;
            }
            return what >= 0 && what < ANY_TALK_LIMIT ? row[what] : NO_SUCH;
        }

        private void begin(Talk talk, int things, int n) {
            memo.begin();
            this.n = Math.max(0, Math.min(n, ANY_TALK_LIMIT));
            lastSpeaker = talk.speakerAt(talk.size - 1);
            saidAhead = talk.size;
            int letters = tongue.asks(1);
            asksB = (letters & 1 << B) != 0;
            asksA = asksB || (letters & 1 << A) != 0;
            asksK = (letters & 1 << K) != 0;
            kindCount = 0;
            for (int t = 0; t < THINGS; t++) {
                if ((things >> t & 1) != 0 && kindCount < ANY_TALK_THINGS) {
                    kinds[kindCount] = t;
                    kindCount++;
                }
            }
            for (int i = 0; i < ANY_TALK_LIMIT; i++) {
                goods[i] = 0;
            }
            clearLevel(0);
            reached(0, talk.spanAt(talk.size - 2), 1 << talk.spanAt(talk.size - 1));
        }

        private void clearLevel(int level) {
            for (int i = 0; i < WIDTH; i++) {
                int place = level * WIDTH + i;
                if (place >= 0 && place < reach.length) {
                    reach[place] = 0;
                }
            }
        }

        /** Lengths (bits) can be the last, with b ahead of them; what no law asks is not told apart. */
        private void reached(int level, int b, int lengths) {
            int place = level * WIDTH + (asksB ? b : 0);
            if (place >= 0 && place < reach.length && lengths != 0) {
                reach[place] |= asksA ? lengths : 1;
            }
        }

        /** Whether a row that begins as the row does can't be held; the row is the first one then. */
        private boolean breaks(int level) {
            if (level < 0 || level >= n || isKnownGood(level)) {
                return false;
            }
            for (int i = 0; i < kindCount && i < ANY_TALK_THINGS; i++) {
                row[level] = kinds[i];
                if (!advance(level, i)) {
                    fillBehind(level);
                    return true;
                }
                if (breaks(level + 1)) {
                    return true;
                }
            }
            rememberGood(level);
            return false;
        }

        private void fillBehind(int level) {
            for (int i = level + 1; i < n && i < ANY_TALK_LIMIT; i++) {
                row[i] = kinds[0];
            }
        }

        private boolean advance(int level, int kind) {
            boolean any = false;
            clearLevel(level + 1);
            for (int b = 0; b < WIDTH; b++) {
                int place = level * WIDTH + b;
                int bits = place >= 0 && place < reach.length ? reach[place] : 0;
                for (int a = 0; a < WIDTH && bits != 0; a++) {
                    int lengths = (bits >> a & 1) != 0 ? lengthsOf(level, kind, a, b) : 0;
                    if (lengths != 0) {
                        any = true;
                        reached(level + 1, a, lengths);
                    }
                    if (any && level == n - 1) {
                        return true;
                    }
                }
            }
            return any;
        }

        /** Two levels on the same speakers speak: only k tells them apart. */
        private int lengthsOf(int level, int kind, int a, int b) {
            int alike = asksK || level < 3 ? level : level - 2;
            int key = (alike * ANY_TALK_THINGS + kind) * PAIRS + a * WIDTH + b;
            if (memo.has(key)) {
                return memo.get(key);
            }
            if (kind < 0 || kind >= ANY_TALK_THINGS) {
                return 0;
            }
            int speaker = level % 2;
            int t = kinds[kind];
            tongue.stand(a, b, level == 0 ? lastSpeaker : 1 - speaker, saidAhead + level);
            int lengths = tongue.lets(1, speaker, t, tongue.sizesOf(t));
            memo.put(key, lengths);
            return lengths;
        }

        /** What can be said behind some pairs can be said behind more of them, too. */
        private boolean isKnownGood(int level) {
            for (int i = 0; i < goods[level] && i < GOODS; i++) {
                boolean inside = true;
                for (int b = 0; b < WIDTH && inside; b++) {
                    int place = (level * GOODS + i) * WIDTH + b;
                    inside = place < good.length && (good[place] & ~reach[level * WIDTH + b]) == 0;
                }
                if (inside) {
                    return true;
                }
            }
            return false;
        }

        private void rememberGood(int level) {
            int from = (level * GOODS + goods[level]) * WIDTH;
            if (goods[level] < GOODS && from + WIDTH <= good.length) {
                System.arraycopy(reach, level * WIDTH, good, from, WIDTH);
                goods[level]++;
            }
        }
    }

    /** Silenced: what comes out for the one whose turn it is, by the two lengths ahead. */
    private static final class Silencing {
        private final Tongue tongue;
        private final Memo memo;
        private int speaker;
        private int things;
        private int other;
        private int others;
        private int n;
        private int lastSpeaker;
        private int lastLength;
        private int lengthAhead;
        private int saidAhead;
        private boolean asksA;
        private boolean asksB;

        Silencing(Tongue tongue, Memo memo) {
            this.tongue = tongue;
            this.memo = memo;
        }

        void begin(Talk talk, int n) {
            memo.begin();
            this.n = Math.max(0, Math.min(n, SILENCED_LIMIT));
            lastSpeaker = talk.speakerAt(talk.size - 1);
            lastLength = talk.spanAt(talk.size - 1);
            lengthAhead = talk.spanAt(talk.size - 2);
            saidAhead = talk.size;
            int letters = tongue.asks(1);
            asksB = (letters & 1 << B) != 0;
            asksA = asksB || (letters & 1 << A) != 0;
        }

        void tell(int speaker, int things, int other, int others) {
            this.speaker = speaker;
            this.things = things;
            this.other = other;
            this.others = others;
        }

        int answer(int what) {
            int best = value(0, lastLength, lengthAhead);
            if (what == 0) {
                return best;
            }
            for (int t = 0; t < THINGS; t++) {
                int length = (things >> t & 1) != 0 ? firstLength(t, best) : NONE;
                if (length != NONE) {
                    return what == 1 ? t : length;
                }
            }
            return NOT_SO;
        }

        private int firstLength(int t, int best) {
            tongue.stand(lastLength, lengthAhead, lastSpeaker, saidAhead);
            int bits = tongue.lets(1, speaker, t, tongue.sizesOf(t));
            for (int l = 1; l <= LONGEST; l++) {
                if ((bits >> l & 1) != 0 && -value(1, l, lastLength) == best) {
                    return l;
                }
            }
            return NONE;
        }

        private int value(int i, int a, int b) {
            if (i >= n) {
                return 0;
            }
            int key = i * PAIRS + (asksA ? a * WIDTH : 0) + (asksB ? b : 0);
            if (memo.has(key)) {
                return memo.get(key);
            }
            boolean begins = i % 2 == 0;
            int ahead = i == 0 ? lastSpeaker : begins ? other : speaker;
            tongue.stand(a, b, ahead, saidAhead + i);
            int bits = tongue.letsAny(begins ? speaker : other, begins ? things : others, ALL_LENGTHS);
            int best = -1;
            if (bits != 0 && i == n - 1) {
                best = 0;
            } else {
                for (int l = 1; l <= LONGEST && best < 1; l++) {
                    best = (bits >> l & 1) != 0 ? Math.max(best, -value(i + 1, l, a)) : best;
                }
            }
            memo.put(key, best);
            return best;
        }
    }

    /** Waited: all that can have been said last after so many sentences, as bits of a by speaker and b. */
    private static final class Waiting {
        private static final int ROWS = (SPEAKERS + 1) * WIDTH;

        private final Tongue tongue;
        private final int[] now = new int[ROWS];
        private final int[] next = new int[ROWS];
        private final int[] seen = new int[ROWS];
        private int tried;
        private int wanted;
        private boolean asksA;
        private boolean asksB;
        private boolean asksSpeaker;
        private boolean asksLast;
        private boolean asksK;

        Waiting(Tongue tongue) {
            this.tongue = tongue;
        }

        int answer(Talk talk, int speakers, int l) {
            wanted = 1 << l;
            if ((tongue.allSizes() & wanted) == 0) {
                return NOT_SO;
            }
            begin(talk, speakers);
            for (int level = 0; level <= WAITED_LIMIT; level++) {
                if (somebodyMay(talk.size + level)) {
                    return level;
                }
                if (level < WAITED_LIMIT && !spread(talk.size + level)) {
                    return NOT_SO;
                }
            }
            return NOT_SO;
        }

        private void begin(Talk talk, int speakers) {
            int letters = tongue.asks(1);
            tried = tongue.differing(speakers, letters);
            asksB = (letters & 1 << B) != 0;
            asksA = asksB || (letters & 1 << A) != 0;
            asksSpeaker = (letters & (1 << S | 1 << C)) != 0;
            asksLast = (letters & (1 << R | 1 << D)) != 0;
            asksK = (letters & 1 << K) != 0;
            for (int i = 0; i < ROWS; i++) {
                now[i] = 0;
                seen[i] = 0;
            }
            int start = rowOf(talk.speakerAt(talk.size - 1), talk.spanAt(talk.size - 2));
            if (start >= 0 && start < ROWS) {
                now[start] = asksA ? 1 << talk.spanAt(talk.size - 1) : 1;
                seen[start] = now[start];
            }
        }

        private int rowOf(int r, int b) {
            return (asksLast ? r + 1 : 0) * WIDTH + (asksB ? b : 0);
        }

        private void standAt(int row, int a, int k) {
            tongue.stand(a, row % WIDTH, row / WIDTH - 1, k);
        }

        private boolean somebodyMay(int k) {
            for (int row = 0; row < ROWS; row++) {
                for (int a = 0; a < WIDTH && now[row] != 0; a++) {
                    if ((now[row] >> a & 1) != 0) {
                        standAt(row, a, k);
                        if (anyMay()) {
                            return true;
                        }
                    }
                }
            }
            return false;
        }

        private boolean anyMay() {
            for (int s = 0; s < SPEAKERS; s++) {
                if ((tried >> s & 1) != 0) {
                    if (tongue.letsAny(s, ALL_THINGS, wanted) != 0) {
                        return true;
                    }
                    if (!asksSpeaker) {
                        return false;
                    }
                }
            }
            return false;
        }

        /** One sentence more, none of which can be of the wanted length: whether there is anything new. */
        private boolean spread(int k) {
            for (int i = 0; i < ROWS; i++) {
                next[i] = 0;
            }
            for (int row = 0; row < ROWS; row++) {
                for (int a = 0; a < WIDTH && now[row] != 0; a++) {
                    if ((now[row] >> a & 1) != 0) {
                        standAt(row, a, k);
                        speakOn(a);
                    }
                }
            }
            boolean any = false;
            for (int i = 0; i < ROWS; i++) {
                now[i] = asksK ? next[i] : next[i] & ~seen[i];
                seen[i] |= next[i];
                any = any || now[i] != 0;
            }
            return any;
        }

        /** What this level has reached already is not asked again; speakers whom no clause tells apart reach the same. */
        private void speakOn(int a) {
            int lengths = 0;
            boolean known = false;
            for (int s = 0; s < SPEAKERS; s++) {
                int row = rowOf(s, a);
                if ((tried >> s & 1) != 0 && row >= 0 && row < ROWS) {
                    if (asksSpeaker || !known) {
                        lengths = tongue.letsAny(s, ALL_THINGS, ALL_LENGTHS & ~wanted & ~next[row]);
                        known = true;
                    }
                    if (lengths != 0) {
                        next[row] |= asksA ? lengths : 1;
                    }
                }
            }
        }
    }

    /**
     * Rounds: rows of 2, 4, 6 lengths in their order, each of which may follow the two ahead round the row.
     * A length stands for speaker s behind a and b; alive holds for s and b the bits of a that can be ahead of it.
     */
    private static final class Rounding {
        private static final int DEAD_FROM = 2 * PAIRS;
        private static final int PASSES = 64;

        private final Tongue tongue;
        private final Memo memo;
        private final int[] row = new int[ROUND_LIMIT];
        private final int[] alive = new int[2 * WIDTH];
        private int t;
        private int saidAhead;
        private int size;
        private boolean asksA;
        private boolean asksB;

        Rounding(Tongue tongue, Memo memo) {
            this.tongue = tongue;
            this.memo = memo;
        }

        int answer(int t, int saidAhead, int what) {
            begin(t, saidAhead);
            boolean found = false;
            for (int i = 2; i <= ROUND_LIMIT && !found; i += 2) {
                size = i;
                if (i == 4) {
                    thinOutAll();
                }
                found = beginsRound();
            }
            if (!found) {
                return NOT_SO;
            }
            if (what == NONE) {
                return size;
            }
            return what >= 0 && what < size && what < ROUND_LIMIT ? row[what] : NO_SUCH;
        }

        private void begin(int t, int saidAhead) {
            memo.begin();
            this.t = t;
            this.saidAhead = saidAhead;
            int letters = tongue.asks(1);
            asksA = (letters & 1 << A) != 0;
            asksB = (letters & 1 << B) != 0;
            int bits = tongue.sizesOf(t);
            for (int b = 0; b < WIDTH; b++) {
                alive[b] = (bits >> b & 1) != 0 ? bits : 0;
                alive[WIDTH + b] = alive[b];
            }
        }

        /** Takes away what nothing can follow and what can follow nothing: no round goes through it. */
        private void thinOutAll() {
            boolean changed = true;
            for (int i = 0; i < PASSES && changed; i++) {
                changed = false;
                for (int a = 1; a < WIDTH; a++) {
                    changed |= thinOutBehind(0, a);
                    changed |= thinOutBehind(1, a);
                }
            }
        }

        private boolean thinOutBehind(int s, int a) {
            int from = s == 0 ? 0 : WIDTH;
            int to = (s == 0 ? WIDTH : 0) + a;
            if (a < 0 || a >= WIDTH) {
                return false;
            }
            boolean changed = false;
            int all = 0;
            for (int b = 1; b < WIDTH; b++) {
                if ((alive[from + b] >> a & 1) != 0) {
                    int bits = following(s, a, b) & alive[to];
                    all |= bits;
                    if (bits == 0) {
                        alive[from + b] &= ~(1 << a);
                        changed = true;
                    }
                }
            }
            changed |= (alive[to] & ~all) != 0;
            alive[to] &= all;
            return changed;
        }

        private boolean beginsRound() {
            for (int first = 1; first < WIDTH; first++) {
                for (int second = 1; second < WIDTH && alive[first] != 0; second++) {
                    row[0] = first;
                    row[1] = second;
                    if ((alive[first] >> second & 1) != 0 && goesOn(2)) {
                        return true;
                    }
                }
            }
            return false;
        }

        /** Whether the row, as it is ahead of place i, can be led to its end and round. */
        private boolean goesOn(int i) {
            if (i < 2 || i > size || i > ROUND_LIMIT) {
                return false;
            }
            int a = row[i - 1];
            int b = row[i - 2];
            if (i == size) {
                return (following(0, a, b) >> row[0] & 1) != 0 && (following(1, row[0], a) >> row[1] & 1) != 0;
            }
            int key = DEAD_FROM + i * PAIRS + a * WIDTH + b;
            int start = size * PAIRS + row[0] * WIDTH + row[1];
            if (memo.has(key) && memo.get(key) == start) {
                return false;
            }
            int next = (i % 2 == 0 ? WIDTH : 0) + a;
            int bits = next >= 0 && next < alive.length ? following(i % 2, a, b) & alive[next] : 0;
            for (int l = 1; l <= LONGEST && bits != 0; l++) {
                row[i] = l;
                if ((bits >> l & 1) != 0 && goesOn(i + 1)) {
                    return true;
                }
            }
            memo.put(key, start);
            return false;
        }

        /** Lengths (bits) that speaker s may say behind a and b; what the law does not ask is not told apart. */
        private int following(int s, int a, int b) {
            int key = s * PAIRS + (asksA ? a * WIDTH : 0) + (asksB ? b : 0);
            if (memo.has(key)) {
                return memo.get(key);
            }
            tongue.stand(a, b, 1 - s, saidAhead);
            int bits = tongue.lets(1, s, t, tongue.sizesOf(t));
            memo.put(key, bits);
            return bits;
        }
    }
}
