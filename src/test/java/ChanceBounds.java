/** The sentences on chance, on what is kept, checked and counted: terms and promises 20 to 25. */
final class ChanceBounds extends Bounds {
    private ChanceBounds() {
    }

    /** A seed whose next X has speaker s, thing t and the rest that is asked for at X / 72. */
    private static int seedFor(int s, int t, int rest, int choices) {
        for (int seed = 0; seed < 65536; seed++) {
            int x = nextSeed(seed);
            if (x % 6 == s && x / 6 % 12 == t && x / 72 % choices == rest) {
                return seed;
            }
        }
        return NONE;
    }

    @Says(of = 0, words = "DRAWN: n times (1 to 20):")
    static void drawnFrom1To20(Tester test) {
        NoEcho x = tongueOfAll("a");
        int seed = 1;
        for (int n = 1; n <= 20; n++) {
            int room = 200 - n * (n - 1) / 2;
            test.due("drawn " + n, x.draw(n), Math.min(n, room));
            for (int i = 0; i < n; i++) {
                seed = nextSeed(seed);
            }
            test.due("X", x.count(5), seed);
        }
        for (int n : new int[] {0, 21, -1, LOW, HIGH}) {
            test.due("draw " + n, x.draw(n), NONE);
        }
        test.due("X stays", x.count(5), seed);
    }

    @Says(of = 0, words = "X = (25173 X + 13849) modulo 65536")
    static void theNextX(Tester test) {
        NoEcho x = new NoEcho();
        int[][] pairs = {{0, 13849}, {1, 39022}, {2, 64195}, {3, 23832}, {65535, 54212}, {65534, 29039}, {39022, 61087}};
        for (int[] pair : pairs) {
            x.seed(pair[0]);
            x.draw(1);
            test.due("behind " + pair[0], x.count(5), pair[1]);
            test.due("reckoned once more", nextSeed(pair[0]), pair[1]);
        }
        // no number comes twice ahead of the whole round, and none is outside its bounds
        x.seed(0);
        int seed = 0;
        for (int i = 0; i < 100; i++) {
            x.draw(1);
            seed = nextSeed(seed);
            test.due("X " + i, x.count(5), seed);
        }
    }

    @Says(of = 0, words = "(X is THE SEED at first, 1):")
    static void theSeedIsXAtFirst(Tester test) {
        NoEcho x = tongue("a", "a", "a", "a", "a", "a", "a", "a", "a", "a", "a", "a|bb|ccc");
        test.due("X at first", x.count(5), 1);
        x.draw(1);
        // 39022: speaker 4, thing 11, place 541 modulo 3
        test.due("speaker", x.said(0, 0), 4);
        test.due("thing", x.said(0, 1), 11);
        test.due("length", x.said(0, 2), 2);
    }

    @Says(of = 0, words = "SPEAKER X modulo 6 says THING X / 6 modulo 12,")
    static void speakerAndThingOfX(Tester test) {
        NoEcho x = tongueOfAll("a");
        for (int s = 0; s < 6; s++) {
            for (int t = 0; t < 12; t++) {
                x.seed(seedFor(s, t, 0, 1));
                int place = x.count(0);
                test.due("one is said", x.draw(1), 1);
                test.due("speaker", x.said(place, 0), s);
                test.due("thing", x.said(place, 1), t);
            }
        }
    }

    @Says(of = 0, words = "in the LENGTH that is the one at place X / 72 modulo how many of those it has that may be said by LAW 0")
    static void lengthOfX(Tester test) {
        NoEcho x = new NoEcho();
        Tester.thing(x, 7, "a+");
        Tester.law(x, 1, "n(0=0)");
        for (int rest = 0; rest < 24; rest++) {
            x.seed(seedFor(3, 7, rest, 24));
            x.draw(1);
            test.due("of 24", x.count(7), rest + 1);
        }
        Tester.law(x, 0, "n(!l%5=4)");
        int[] some = {4, 9, 14, 19, 24};
        for (int rest = 0; rest < 5; rest++) {
            x.seed(seedFor(3, 7, rest, 5));
            x.draw(1);
            test.due("of five that may be said", x.count(7), some[rest]);
        }
        Tester.law(x, 0, "n(!l=24)");
        x.seed(0);
        x.draw(20);
        test.due("of one alone", x.count(7), 24);
        // what is said now counts for the next one
        Tester.thing(x, 7, "a|bb");
        Tester.law(x, 0, "n(l=a)");
        for (int i = 0; i < 6; i++) {
            x.seed(seedFor(i, 7, 0, 2));
            x.draw(1);
            test.due("no echo", x.count(7), i % 2 == 0 ? 1 : 2);
        }
    }

    @Says(of = 0, words = "(by size; none: nothing is said).")
    static void drawnOfNone(Tester test) {
        NoEcho x = new NoEcho();
        test.due("no thing has a length", x.draw(20), 0);
        test.due("nothing is said", x.count(0), 0);
        Tester.thing(x, 7, "ccc|a|bb");
        x.seed(seedFor(3, 7, 0, 3));
        x.draw(1);
        test.due("the least is the first", x.count(7), 1);
        Tester.law(x, 0, "n(s=3)");
        x.seed(seedFor(3, 7, 0, 1));
        test.due("law 0 lets none", x.draw(1), 0);
        test.due("X goes on", x.count(5), nextSeed(seedFor(3, 7, 0, 1)));
        test.due("one stays", x.count(0), 1);
        x.seed(seedFor(2, 7, 0, 1));
        test.due("another may", x.draw(1), 1);
    }

    @Says(of = 0, words = "KEPT: THE TALK, COLOURS, X;")
    static void whatIsKept(Tester test) {
        NoEcho x = tongue("a|bb|ccc");
        say(x, 5, 0, 3, 1);
        x.colour(0, 1);
        x.colour(5, 3);
        x.seed(65535);
        x.keep();
        say(x, 1, 0, 2, 2, 2);
        x.colour(0, 2);
        x.colour(5, 0);
        x.draw(20);
        Tester.thing(x, 0, "dddd");
        Tester.thing(x, 1, "a");
        Tester.law(x, 0, "n(l=9);p5(l=3)");
        Tester.law(x, 1, "n(l=a);n(l=b);n(l=1)");
        x.feed(1, 2, 3, 4, 5);
        test.due("undo", x.undo(), true);
        int[] due = {2, 4, 2, 3, 20, 65535, 3, 1, 3};
        for (int what = 0; what < due.length; what++) {
            test.due("count " + what, x.count(what), due[what]);
        }
        test.due("colour of 0", x.count(10), 1);
        test.due("colour of 5", x.count(15), 3);
        test.due("said by 5", x.count(25), 2);
        test.due("said by 1", x.count(21), 0);
        test.due("no third sentence", x.said(2, 0), NONE);
        test.due("the things stay as they are", x.lengths(0), bits(4));
        test.due("paid by the law as it is now", x.paid(5), 5);
    }

    @Says(of = 0, words = "UNDONE: as they were KEPT last.")
    static void undoneToTheLast(Tester test) {
        NoEcho x = tongue("a");
        fill(x, 1);
        x.keep();
        fill(x, 2);
        x.keep();
        fill(x, 5);
        for (int i = 0; i < 3; i++) {
            test.due("undo", x.undo(), true);
            test.due("as kept last", x.count(0), 2);
            fill(x, 10);
        }
        fill(x, 200);
        test.due("keep of 200", x.keep(), 200);
        x.undo();
        test.due("200", x.count(0), 200);
        test.due("still full", x.say(0, 0, 1), NONE);
        NoEcho y = tongue("a");
        y.keep();
        fill(y, 200);
        test.due("undo of 200", y.undo(), true);
        test.due("none", y.count(0), 0);
        test.due("room again", y.say(0, 0, 1), 1);
    }

    @Says(of = 0, words = "CHECK: the last LENGTHS (the eldest of them first): right, or the first number that is not so.")
    static void checkOfTheLast(Tester test) {
        NoEcho x = tongue("a+");
        say(x, 0, 0, 24, 1, 7, 9);
        x.feed(7, 9, 0, 0, 0);
        test.due("the last two", x.check(2), NONE);
        x.feed(9, 7, 0, 0, 0);
        test.due("not the other way round", x.check(2), 0);
        x.feed(24, 1, 7, 9, 0);
        test.due("all", x.check(4), NONE);
        x.feed(24, 2, 8, 9, 0);
        test.due("the first that is not so", x.check(4), 1);
        x.feed(24, 1, 7, 8, 0);
        test.due("the last is not so", x.check(4), 3);
        x.feed(24, 1, 7, 9, 0);
        test.due("not the first ones", x.check(2), 0);
    }

    @Says(of = 0, words = "All memory is the tongue's own.")
    static void twoTonguesShareNothing(Tester test) {
        NoEcho x = tongue("a|bb");
        NoEcho y = tongue("ccc");
        Tester.law(x, 0, "n(l=a)");
        Tester.law(y, 0, "n(0=1);p7(0=0)");
        x.feed(1, 2, 3, 4, 5);
        y.colour(2, 3);
        y.seed(9);
        say(x, 0, 0, 1, 2);
        say(y, 1, 0, 3, 3, 3);
        x.keep();
        test.due("y has kept nothing", y.undo(), false);
        int[] ofX = {2, 3, 1, 0, 20, 1, 1, 2, 1};
        int[] ofY = {3, 9, 2, 0, 0, 9, 1, 3, 3};
        for (int what = 0; what < 9; what++) {
            test.due("x " + what, x.count(what), ofX[what]);
            test.due("y " + what, y.count(what), ofY[what]);
        }
        test.due("colour in x", x.count(12), 0);
        test.due("x pays nothing", x.paid(0), 0);
        test.due("y pays", y.paid(1), 21);
        test.due("ways in x", x.ways(0, 0, 0), bits(1));
        test.due("ways in y", y.ways(0, 0, 0), bits(3));
        test.due("a round in x", x.round(0, 1), 2);
        test.due("a round in y", y.round(0, 1), 3);
        test.due("any talk in x", x.anyTalk(1, 5, NONE), 1);
    }

    @Says(of = 0, words = "`NONE = -1`: There is none.")
    static void theConstant(Tester test) {
        test.due("NONE", NoEcho.NONE, -1);
    }

    @Says(of = 20, words = "THE SEED (0 to 65535; X, too): true;")
    static void seedFrom0To65535(Tester test) {
        NoEcho x = new NoEcho();
        for (int seed : new int[] {0, 1, 32767, 32768, 65534, 65535}) {
            test.due("seed " + seed, x.seed(seed), true);
            test.due("X " + seed, x.count(5), seed);
        }
    }

    @Says(of = 20, words = "false: no such number.")
    static void noSuchSeed(Tester test) {
        NoEcho x = new NoEcho();
        x.seed(77);
        for (int seed : new int[] {-1, 65536, 131072, LOW, HIGH}) {
            test.due("seed " + seed, x.seed(seed), false);
            test.due("X stays", x.count(5), 77);
        }
    }

    @Says(of = 21, words = "DRAWN: how many SENTENCES were said (none is said beyond 200);")
    static void drawnUpTo200(Tester test) {
        NoEcho x = tongueOfAll("a");
        test.due("all of 20", x.draw(20), 20);
        test.due("sentences", x.count(0), 20);
        fill(x, 195);
        x.seed(1);
        test.due("five have room", x.draw(20), 5);
        test.due("200", x.count(0), 200);
        int seed = 1;
        for (int i = 0; i < 20; i++) {
            seed = nextSeed(seed);
        }
        test.due("X goes on", x.count(5), seed);
        test.due("none has room", x.draw(1), 0);
        test.due("still 200", x.count(0), 200);
        NoEcho y = tongueOfAll("a");
        Tester.law(y, 0, "n(k=3)");
        test.due("some of 20", y.draw(20), 3);
    }

    @Says(of = 21, words = "NONE: no such n.")
    static void drawOfNoSuchN(Tester test) {
        NoEcho x = tongueOfAll("a");
        for (int n : new int[] {0, -1, 21, LOW, HIGH}) {
            test.due("draw " + n, x.draw(n), NONE);
        }
        test.due("nothing was said", x.count(0), 0);
        test.due("X stays", x.count(5), 1);
        test.due("1", x.draw(1), 1);
        test.due("20", x.draw(20), 20);
    }

    @Says(of = 22, words = "KEPT: SENTENCES of THE TALK.")
    static void keepTellsHowMany(Tester test) {
        NoEcho x = tongue("a");
        test.due("none", x.keep(), 0);
        fill(x, 3);
        test.due("three", x.keep(), 3);
        test.due("three again", x.keep(), 3);
        fill(x, 200);
        test.due("200", x.keep(), 200);
    }

    @Says(of = 23, words = "UNDONE: true;")
    static void undoIsTrue(Tester test) {
        NoEcho x = tongue("a");
        x.keep();
        test.due("an empty talk was kept", x.undo(), true);
        fill(x, 4);
        x.colour(3, 3);
        x.seed(5);
        test.due("again", x.undo(), true);
        test.due("no sentences", x.count(0), 0);
        test.due("no words", x.count(1), 0);
        test.due("no last length", x.count(7), 0);
        test.due("colour", x.count(13), 0);
        test.due("X", x.count(5), 1);
    }

    @Says(of = 23, words = "false: none was KEPT.")
    static void undoOfNone(Tester test) {
        NoEcho x = tongue("a");
        test.due("a new object", x.undo(), false);
        fill(x, 2);
        x.colour(1, 2);
        x.seed(9);
        test.due("none was kept", x.undo(), false);
        test.due("sentences stay", x.count(0), 2);
        test.due("colours stay", x.count(11), 2);
        test.due("X stays", x.count(5), 9);
    }

    @Says(of = 24, words = "CHECK by the first n numbers of the tape (0 to 20; four bytes each; empty then):")
    static void checkFrom0To20(Tester test) {
        NoEcho x = tongue("a+");
        x.feed(1, 2, 3, 4, 5);
        test.due("0 of an empty talk", x.check(0), NONE);
        test.due("the tape is empty", x.count(4), 0);
        test.due("0 of an empty tape", x.check(0), NONE);
        for (int l = 1; l <= 24; l++) {
            x.say(0, 0, l);
        }
        for (int n = 1; n <= 20; n++) {
            feedNumbers(x, 25 - n);
            test.due("check " + n, x.check(n), NONE);
            test.due("the tape is empty", x.count(4), 0);
        }
        feedNumbers(x, 5);
        x.feed(9, 9, 9, 9, 9);
        test.due("what is behind is not looked at", x.check(20), NONE);
        test.due("21", x.check(21), -2);
        int[] wrong = {0x18000000, 0x00180000, 0x00001800, 0x01000018, 0x00010018, 0x00000118, -24, 0, HIGH, LOW,
            LOW + 24, 0x00800018, 0x00008018};
        for (int number : wrong) {
            x.feed(number, 0, 0, 0, 0);
            test.due("all four bytes of " + number, x.check(1), 0);
        }
        x.feed(24, 0, 0, 0, 0);
        test.due("24", x.check(1), NONE);
    }

    /** Twenty numbers and more, each by one above the last. */
    private static void feedNumbers(NoEcho x, int from) {
        for (int i = from; i < from + 20; i += 5) {
            x.feed(i, i + 1, i + 2, i + 3, i + 4);
        }
    }

    @Says(of = 24, words = "NONE: right; else the place of the first number that is not so;")
    static void checkTellsThePlace(Tester test) {
        NoEcho x = tongue("a");
        fill(x, 30);
        for (int place = 0; place < 20; place++) {
            int[] told = new int[80];
            for (int i = 0; i < 20; i++) {
                told[4 * i + 3] = i == place || i == 19 ? 2 : 1;
            }
            Tester.feed(x, told);
            test.due("place", x.check(20), place);
            test.due("the tape is empty", x.count(4), 0);
            Tester.feed(x, told);
            test.due("ahead of it", x.check(place), NONE);
        }
    }

    @Says(of = 24, words = "-2: no such n, more than there are SENTENCES, it has not so many (the tape stays).")
    static void checkOfNoSuchN(Tester test) {
        NoEcho x = tongue("a");
        x.feed(1, 1, 1, 1, 1);
        test.due("one of an empty talk", x.check(1), -2);
        fill(x, 3);
        test.due("four of three", x.check(4), -2);
        fill(x, 30);
        for (int n : new int[] {-1, 21, LOW, HIGH, 0x40000000, 0x40000001}) {
            test.due("check " + n, x.check(n), -2);
        }
        test.due("six numbers of five", x.check(6), -2);
        test.due("the tape stays", x.count(4), 20);
        test.due("five of five", x.check(5), NONE);
        test.due("one of an empty tape", x.check(1), -2);
        for (int i = 0; i < 11; i++) {
            x.feed(1, 1, 1, 1, 1);
        }
        test.due("21 of 55", x.check(21), -2);
        test.due("220 bytes stay", x.count(4), 220);
        test.due("20 of 55", x.check(20), NONE);
    }

    @Says(of = 25, words = "0 SENTENCES, 1 words of all, 2, 3 CLAUSES of LAW 0, 1, 4 bytes of the tape, 5 X,")
    static void countsOfTheTalk(Tester test) {
        NoEcho x = tongue("a9a9a6");
        for (int i = 0; i < 200; i++) {
            x.say(0, 0, 24);
        }
        test.due("sentences", x.count(0), 200);
        test.due("words", x.count(1), 4800);
        Tester.law(x, 0, clauses(14));
        Tester.law(x, 1, clauses(13));
        test.due("clauses of law 0", x.count(2), 14);
        test.due("clauses of law 1", x.count(3), 13);
        for (int i = 0; i < 12; i++) {
            x.feed(0, 0, 0, 0, 0);
        }
        test.due("bytes", x.count(4), 220);
        x.seed(65535);
        test.due("X", x.count(5), 65535);
    }

    @Says(of = 25, words = "6 THINGS that have a LENGTH (bits),")
    static void countOfThings(Tester test) {
        NoEcho x = new NoEcho();
        int due = 0;
        for (int t = 11; t >= 0; t--) {
            Tester.thing(x, t, t == 5 ? "(a5)5" : "a9a9a6");
            due |= t == 5 ? 0 : 1 << t;
            test.due("things from " + t, x.count(6), due);
        }
        Tester.thing(x, 11, "(a5)5");
        test.due("one that has none any more", x.count(6), due & ~bits(11));
    }

    @Says(of = 25, words = "7, 8 LENGTHS of the last one and the one ahead of it (0);")
    static void countOfTheLast(Tester test) {
        NoEcho x = tongue("a+");
        test.due("no last one", x.count(7), 0);
        test.due("none ahead of it", x.count(8), 0);
        x.say(0, 0, 24);
        test.due("the last one", x.count(7), 24);
        test.due("still none ahead", x.count(8), 0);
        x.say(0, 0, 1);
        test.due("the last", x.count(7), 1);
        test.due("the one ahead", x.count(8), 24);
    }

    @Says(of = 25, words = "10 + s the COLOUR of SPEAKER s, 20 + s how many SENTENCES it has said.")
    static void countsOfSpeakers(Tester test) {
        NoEcho x = tongue("a");
        for (int s = 0; s <= 5; s++) {
            x.colour(s, s % 4);
            for (int i = 0; i < 6 - s; i++) {
                x.say(s, 0, 1);
            }
        }
        for (int s = 0; s <= 5; s++) {
            test.due("colour of " + s, x.count(10 + s), s % 4);
            test.due("sentences of " + s, x.count(20 + s), 6 - s);
        }
        for (int i = x.count(0); i < 200; i++) {
            x.say(5, 0, 1);
        }
        test.due("all the rest", x.count(25), 180);
    }

    @Says(of = 25, words = "NONE for others.")
    static void countOfOthers(Tester test) {
        NoEcho x = tongue("a");
        fill(x, 2);
        for (int what : new int[] {-1, 9, 16, 17, 19, 26, 27, 30, 100, LOW, HIGH}) {
            test.due("count " + what, x.count(what), NONE);
        }
    }
}
