/** The sentences on the tape, things, speakers and colours: terms and promises 1 to 5. */
final class TongueBounds extends Bounds {
    private TongueBounds() {
    }

    @Says(of = 0, words = "THINGS 0 to 11,")
    static void thingsFrom0To11(Tester test) {
        NoEcho x = new NoEcho();
        for (int t = 0; t <= 11; t++) {
            test.due("thing " + t, Tester.thing(x, t, "a".repeat(t + 1)), 1);
        }
        for (int t = 0; t <= 11; t++) {
            test.due("lengths " + t, x.lengths(t), bits(t + 1));
            test.due("say " + t, x.say(0, t, t + 1), t + 1);
        }
        for (int t : new int[] {-1, 12, 32, LOW, HIGH}) {
            test.due("thing " + t, Tester.thing(x, t, "a"), NONE);
            x.thing(0, 1);
            test.due("lengths " + t, x.lengths(t), NONE);
        }
    }

    @Says(of = 0, words = "each with LENGTHS (of 1 to 24 words) in which it can be said")
    static void lengthsFrom1To24(Tester test) {
        NoEcho x = tongue("a+");
        test.due("lengths", x.lengths(0), ALL);
        test.due("0 words", x.say(0, 0, 0), -2);
        test.due("1 word", x.say(0, 0, 1), 1);
        test.due("24 words", x.say(0, 0, 24), 2);
        test.due("25 words", x.say(0, 0, 25), -2);
    }

    @Says(of = 0, words = "(none at first), told by a PATTERN:")
    static void noLengthsAtFirst(Tester test) {
        NoEcho x = new NoEcho();
        for (int t = 0; t < 12; t++) {
            test.due("lengths " + t, x.lengths(t), 0);
            test.due("ways " + t, x.ways(0, 0, t), 0);
            test.due("say " + t, x.say(0, t, 1), -2);
        }
        test.due("things that have a length", x.count(6), 0);
    }

    @Says(of = 0, words = "a TEXT of at most 60 bytes,")
    static void patternOf60Bytes(Tester test) {
        String sixty = "a|".repeat(28) + "(aa)";
        pattern(test, sixty, bits(1, 2));
        pattern(test, "a".repeat(60), 0);
        NoEcho x = tongue("ab|c");
        Tester.feedText(x, sixty + "|aaa");
        test.due("61 bytes", x.thing(0, 61), NONE);
        test.due("62 bytes", x.thing(0, 62), NONE);
        test.due("the one before", x.lengths(0), bits(1, 2));
        test.due("tape", x.count(4), 80);
        test.due("60 bytes", x.thing(0, 60), 2);
    }

    @Says(of = 0, words = "no blanks: WAYS with a |")
    static void noBlanksInAPattern(Tester test) {
        patternFault(test, " ", -1000);
        patternFault(test, " a", -1000);
        patternFault(test, "a ", -1001);
        patternFault(test, "a b", -1001);
        patternFault(test, "a| b", -1002);
        patternFault(test, "( a)", -1001);
        patternFault(test, "[a ]", -1002);
        patternFault(test, "a 2", -1001);
        patternFault(test, "a\tb", -1001);
        patternFault(test, "a\n", -1001);
    }

    @Says(of = 0, words = "WAYS with a | between two, one of which is taken;")
    static void waysAndOnesBetween(Tester test) {
        pattern(test, "a", bits(1));
        pattern(test, "a|bb", bits(1, 2));
        pattern(test, "a|bb|cccc", bits(1, 2, 4));
        pattern(test, "(a|bb)c", bits(2, 3));
        patternFault(test, "|", -1000);
        patternFault(test, "|a", -1000);
        patternFault(test, "a|", -1002);
        patternFault(test, "a||b", -1002);
        patternFault(test, "(a|)", -1003);
        patternFault(test, "(|a)", -1001);
    }

    @Says(of = 0, words = "a WAY: one or more ITEMS, one behind the other;")
    static void aWayIsNotEmpty(Tester test) {
        pattern(test, "q", bits(1));
        pattern(test, "qr", bits(2));
        pattern(test, "a".repeat(24), bits(24));
        pattern(test, "(a)[b](c)", bits(2, 3));
        pattern(test, "[a](b|cc)[d]", bits(1, 2, 3, 4));
        patternFault(test, "()", -1001);
        patternFault(test, "[]", -1001);
        patternFault(test, "a()", -1002);
        patternFault(test, "[[]]", -1002);
    }

    @Says(of = 0, words = "an ITEM: a letter (a to z: a word),")
    static void lettersFromAToZ(Tester test) {
        for (char c = 'a'; c <= 'z'; c++) {
            pattern(test, String.valueOf(c), bits(1));
        }
        for (char c : new char[] {'a' - 1, 'z' + 1, 'A', 'Z', '@', '_', '~', 0, 127, 128, 'a' + 128, 255}) {
            patternFault(test, String.valueOf(c), -1000);
            patternFault(test, "a" + c, -1001);
        }
    }

    @Says(of = 0, words = "(PATTERN), or [PATTERN] (that, or nothing);")
    static void bracketsOfBothKinds(Tester test) {
        pattern(test, "(a)", bits(1));
        pattern(test, "x(a|bb)", bits(2, 3));
        pattern(test, "x[a]", bits(1, 2));
        pattern(test, "x[aa|bbbb]", bits(1, 3, 5));
        pattern(test, "x[a][bb]", bits(1, 2, 3, 4));
        pattern(test, "x([a])", bits(1, 2));
        patternFault(test, "(a]", -1002);
        patternFault(test, "[a)", -1002);
        patternFault(test, "([a)]", -1003);
        patternFault(test, ")", -1000);
        patternFault(test, "]", -1000);
        patternFault(test, "a)", -1001);
        patternFault(test, "(a))", -1003);
    }

    @Says(of = 0, words = "behind an ITEM there may be a digit 2 to 9 (it is there so many times, each time any way)")
    static void digitsFrom2To9(Tester test) {
        for (int d = 2; d <= 9; d++) {
            pattern(test, "a" + d, bits(d));
            pattern(test, "x[a]" + d, ((1 << d + 1) - 1) << 1);
        }
        pattern(test, "(a|bb)2", bits(2, 3, 4));
        pattern(test, "[abc]2d", bits(1, 4, 7));
        patternFault(test, "a0", -1001);
        patternFault(test, "a1", -1001);
        patternFault(test, "(a)1", -1003);
        patternFault(test, "a" + (char) ('9' + 1), -1001);
        patternFault(test, "2", -1000);
        patternFault(test, "2a", -1000);
        patternFault(test, "a22", -1002);
        patternFault(test, "a2+", -1002);
        patternFault(test, "(2a)", -1001);
        patternFault(test, "a|2", -1002);
    }

    @Says(of = 0, words = "or a + (once or more).")
    static void plusIsOnceOrMore(Tester test) {
        pattern(test, "a+", ALL);
        pattern(test, "xa+", ALL & ~bits(1));
        pattern(test, "(a5)+", bits(5, 10, 15, 20));
        pattern(test, "(a8)+", bits(8, 16, 24));
        pattern(test, "(a9a4)+", bits(13));
        pattern(test, "(a9a9a6)+", bits(24));
        pattern(test, "(a|b9b9)+", ALL);
        pattern(test, "(a7|b9b2)+", bits(7, 11, 14, 18, 21, 22));
        pattern(test, "[ab]+c", bits(1, 3, 5, 7, 9, 11, 13, 15, 17, 19, 21, 23));
        patternFault(test, "+", -1000);
        patternFault(test, "+a", -1000);
        patternFault(test, "a++", -1002);
        patternFault(test, "a+2", -1002);
        patternFault(test, "(+)", -1001);
    }

    @Says(of = 0, words = "LENGTHS above 24,")
    static void lengthsAbove24AreLeftOut(Tester test) {
        pattern(test, "a9a9a6", bits(24));
        pattern(test, "a9a9a7", 0);
        pattern(test, "a".repeat(25) + "|" + "a".repeat(24), bits(24));
        pattern(test, "(a8)3", bits(24));
        pattern(test, "(a5)5|b", bits(1));
        pattern(test, "(a|b9b9)2", bits(2, 19));
        // 32, 33, 64 and 65 words are not 0 or 1
        pattern(test, "(a8)4", 0);
        pattern(test, "(a8)4b", 0);
        pattern(test, "(a8)8b", 0);
        pattern(test, "(a8)4[b]", 0);
        pattern(test, "((a9)9)9", 0);
        pattern(test, "(a9a9a7)+", 0);
        pattern(test, "[a9a9a7]b", bits(1));
    }

    @Says(of = 0, words = "and nothing at all, are left out.")
    static void nothingAtAllIsLeftOut(Tester test) {
        pattern(test, "[a]", bits(1));
        pattern(test, "[[a]]", bits(1));
        pattern(test, "[a][b]", bits(1, 2));
        pattern(test, "[a]9", 0x3FE);
        pattern(test, "[a]+", ALL);
        pattern(test, "[(a5)5]", 0);
        pattern(test, "a|[b]", bits(1));
    }

    @Says(of = 0, words = "FAULTS, the first from the left: 1 what can't stand there (the end, too); 5 a")
    static void firstFaultOfAPattern(Tester test) {
        patternFault(test, "(", -1001);
        patternFault(test, "[", -1001);
        patternFault(test, "(a", -1002);
        patternFault(test, "[a", -1002);
        patternFault(test, "(a|", -1003);
        patternFault(test, "(a|b", -1004);
        patternFault(test, "((((((", -1006);
        patternFault(test, "((((((a", -1007);
        patternFault(test, "a".repeat(59) + "|", -1060);
        patternFault(test, "a".repeat(59) + "!", -1059);
        patternFault(test, "a;b;c", -1001);
        // of two faults the left one
        patternFault(test, "a,(((((((", -1001);
        patternFault(test, "((((((((,", -5006);
        NoEcho x = tongue("ab|c");
        Tester.feedText(x, "a|bb");
        test.due("the end of the text, not of the tape", x.thing(0, 2), -1002);
    }

    @Says(of = 0, words = "5 a seventh of ( [ that are open in one another, at it.")
    static void sixOpenInAPattern(Tester test) {
        pattern(test, "((((((a))))))", bits(1));
        pattern(test, "[[[[[[a]]]]]]", bits(1));
        pattern(test, "([([([a])])])b", bits(1, 2));
        pattern(test, "(a)(a)(a)(a)(a)(a)(a)(a)", bits(8));
        pattern(test, "((((((a))))))[[[[[[a]]]]]]", bits(1, 2));
        pattern(test, "(((((a)(a)(a)|(a)))))", bits(1, 3));
        patternFault(test, "(((((((a)))))))", -5006);
        patternFault(test, "[[[[[[[a]]]]]]]", -5006);
        patternFault(test, "[[[(((a[a])))]]]", -5007);
        patternFault(test, "([([([(", -5006);
        patternFault(test, "((((((a)))))).", -1013);
        patternFault(test, "((((((a))))))(((((((", -5019);
        patternFault(test, "((((((a)(a)(", -1012);
        patternFault(test, "((((((a)((", -5009);
        patternFault(test, "(((((((", -5006);
    }

    @Says(of = 0, words = "SPEAKERS 0 to 5, each of a COLOUR (0 to 3; 0 at first).")
    static void speakersAndColours(Tester test) {
        NoEcho x = tongue("a");
        for (int s = 0; s <= 5; s++) {
            test.due("colour at first", x.count(10 + s), 0);
            test.due("says", x.say(s, 0, 1), s + 1);
            for (int c = 3; c >= 0; c--) {
                test.due("colour " + c, x.colour(s, c), true);
                test.due("is", x.count(10 + s), c);
            }
        }
        for (int wrong : new int[] {-1, 6, 32, LOW, HIGH}) {
            test.due("speaker " + wrong, x.say(wrong, 0, 1), NONE);
            test.due("colour of speaker " + wrong, x.colour(wrong, 1), false);
            test.due("colour " + wrong, x.colour(1, wrong), false);
        }
        test.due("colour 4", x.colour(1, 4), false);
    }

    @Says(of = 0, words = "A SENTENCE: a SPEAKER, a THING, a LENGTH (one of the THING's).")
    static void aLengthOfTheThing(Tester test) {
        NoEcho x = tongue("a|ccc", "bb");
        test.due("of the other thing", x.say(0, 0, 2), -2);
        test.due("of this thing", x.say(0, 1, 2), 1);
        test.due("between two", x.may(0, 0, 0, 2), -2);
        test.due("above", x.may(0, 0, 0, 4), -2);
    }

    @Says(of = 1, words = "No LENGTHS, LAWS, SENTENCES;")
    static void aNewObjectIsEmpty(Tester test) {
        NoEcho x = new NoEcho();
        for (int what = 0; what <= 8; what++) {
            if (what != 5) {
                test.due("count " + what, x.count(what), 0);
            }
        }
        for (int s = 0; s < 6; s++) {
            test.due("colour", x.count(10 + s), 0);
            test.due("sentences of " + s, x.count(20 + s), 0);
            test.due("paid " + s, x.paid(s), 0);
        }
        for (int t = 0; t < 12; t++) {
            test.due("lengths " + t, x.lengths(t), 0);
        }
        test.due("said", x.said(0, 0), NONE);
        test.due("undo", x.undo(), false);
        Tester.thing(x, 0, "a+");
        test.due("no law 0", x.ways(0, 0, 0), ALL);
        test.due("no law 1", x.ways(1, 0, 0), ALL);
        x.say(0, 0, 5);
        test.due("no pay", x.said(0, 3), 0);
    }

    @Says(of = 1, words = "THE SEED 1.")
    static void theFirstSeed(Tester test) {
        NoEcho x = new NoEcho();
        test.due("X", x.count(5), 1);
        x.draw(1);
        test.due("the next X", x.count(5), 39022);
    }

    @Says(of = 2, words = "Twenty bytes come behind the tape, the highest of each int first:")
    static void bytesInTheirOrder(Tester test) {
        NoEcho x = new NoEcho();
        x.feed(0x61616161, 0x61616161, 0x61616161, 0x61616161, 0x6161617C);
        x.feed(0x62620000, 0, 0, 0, 0);
        test.due("behind the tape", x.thing(0, 22), 2);
        test.due("19 words or two", x.lengths(0), bits(19, 2));
        x.feed(0x6128637C, 0x64292B00, 0, 0, 0);
        test.due("a(c|d)+", x.thing(0, 7), 23);
        // one byte each that can't stand there, at every place of the twenty
        for (int place = 0; place < 20; place++) {
            int[] told = new int[20];
            for (int i = 0; i < 20; i++) {
                told[i] = i == place ? 0xFF : 'a';
            }
            Tester.feed(x, told);
            test.due("byte " + place, x.thing(1, 20), -1000 - place);
        }
    }

    @Says(of = 2, words = "how many it has;")
    static void howManyBytes(Tester test) {
        NoEcho x = new NoEcho();
        for (int i = 1; i <= 11; i++) {
            test.due("feed " + i, x.feed(HIGH, LOW, -1, 0, 1), 20 * i);
            test.due("bytes", x.count(4), 20 * i);
        }
        x.thing(0, 1);
        test.due("an empty tape again", x.feed(0, 0, 0, 0, 0), 20);
    }

    @Says(of = 2, words = "NONE if that would be more than 220.")
    static void tapeIsFullAt220(Tester test) {
        NoEcho x = tongue("a");
        for (int i = 0; i < 10; i++) {
            x.feed(0x61616161, 0x61616161, 0x61616161, 0x61616161, 0x61616161);
        }
        test.due("200", x.count(4), 200);
        test.due("the last that goes", x.feed(0, 0, 0, 0, 0), 220);
        test.due("one too many", x.feed(1, 2, 3, 4, 5), NONE);
        test.due("and once more", x.feed(1, 2, 3, 4, 5), NONE);
        test.due("220 stay", x.count(4), 220);
        test.due("the first bytes stay", x.thing(0, 24), 1);
        test.due("24 words", x.lengths(0), bits(24));
        test.due("room again", x.feed(0, 0, 0, 0, 0), 20);
    }

    @Says(of = 3, words = "THING t by the first n bytes of the tape (1 to 60;")
    static void thingByTheFirstBytes(Tester test) {
        NoEcho x = new NoEcho();
        for (int n = 1; n <= 60; n++) {
            Tester.feedText(x, "a".repeat(60));
            test.due("thing of " + n, x.thing(5, n), n <= 24 ? 1 : 0);
            test.due("lengths", x.lengths(5), n <= 24 ? bits(n) : 0);
        }
        test.due("no other thing", x.count(6), 0);
    }

    @Says(of = 3, words = "empty then), in place of the one before:")
    static void thingEmptiesTheTape(Tester test) {
        NoEcho x = tongue("a");
        for (int i = 0; i < 11; i++) {
            x.feed(0x61616161, 0x61616161, 0x61616161, 0x61616161, 0x61616161);
        }
        test.due("thing", x.thing(0, 2), 1);
        test.due("all of it is empty", x.count(4), 0);
        test.due("nothing is left", x.thing(0, 1), NONE);
        test.due("in place of the one before", x.lengths(0), bits(2));
    }

    @Says(of = 3, words = "how many LENGTHS it has;")
    static void howManyLengths(Tester test) {
        NoEcho x = new NoEcho();
        test.due("none", Tester.thing(x, 0, "(a5)5"), 0);
        test.due("one", Tester.thing(x, 0, "a"), 1);
        test.due("all", Tester.thing(x, 0, "a+"), 24);
        test.due("none in place of all", Tester.thing(x, 0, "(a5)5"), 0);
        test.due("no lengths", x.lengths(0), 0);
    }

    @Says(of = 3, words = "a FAULT: -1000 times its number, less its place (the one before stays);")
    static void thingFaults(Tester test) {
        patternFault(test, "?", -1000);
        patternFault(test, "a?", -1001);
        patternFault(test, "a".repeat(59) + "?", -1059);
        patternFault(test, "a".repeat(59) + "(", -1060);
        patternFault(test, "(((((((", -5006);
        patternFault(test, "a".repeat(53) + "(((((((", -5059);
        NoEcho x = new NoEcho();
        test.due("a fault with none before", Tester.thing(x, 3, "?"), -1000);
        test.due("still none", x.lengths(3), 0);
    }

    @Says(of = 3, words = "NONE: no such ones,")
    static void thingOfNoSuchOnes(Tester test) {
        NoEcho x = tongue("a|bb");
        Tester.feedText(x, "a".repeat(80));
        for (int t : new int[] {-1, 12, LOW, HIGH}) {
            test.due("thing " + t, x.thing(t, 1), NONE);
        }
        for (int n : new int[] {0, -1, 61, LOW, HIGH}) {
            test.due("bytes " + n, x.thing(0, n), NONE);
        }
        test.due("the tape stays", x.count(4), 80);
        test.due("things stay", x.lengths(0), bits(1, 2));
        test.due("no others", x.count(6), 1);
    }

    @Says(of = 3, words = "it has not so many (the tape stays).")
    static void thingOfAShortTape(Tester test) {
        NoEcho x = tongue("a|bb");
        test.due("an empty tape", x.thing(0, 1), NONE);
        Tester.feedText(x, "a".repeat(20));
        test.due("21 of 20", x.thing(0, 21), NONE);
        test.due("the tape stays", x.count(4), 20);
        test.due("the thing stays", x.lengths(0), bits(1, 2));
        test.due("20 of 20", x.thing(0, 20), 1);
        test.due("twenty words", x.lengths(0), bits(20));
    }

    @Says(of = 4, words = "LENGTHS of a THING, as bits (1 to 24);")
    static void lengthsAsBits(Tester test) {
        NoEcho x = new NoEcho();
        for (int l = 1; l <= 24; l++) {
            Tester.thing(x, 11, "a".repeat(l));
            test.due("length " + l, x.lengths(11), bits(l));
        }
        Tester.thing(x, 11, "a+");
        test.due("all", x.lengths(11), 33554430);
        test.due("none", x.lengths(10), 0);
    }

    @Says(of = 4, words = "NONE: no such THING.")
    static void lengthsOfNoSuchThing(Tester test) {
        NoEcho x = tongueOfAll("a");
        for (int t : new int[] {-1, 12, -12, 32, LOW, HIGH}) {
            test.due("thing " + t, x.lengths(t), NONE);
        }
        test.due("thing 0", x.lengths(0), 2);
        test.due("thing 11", x.lengths(11), 2);
    }

    @Says(of = 5, words = "COLOUR: true;")
    static void colourIsTaken(Tester test) {
        NoEcho x = new NoEcho();
        for (int s = 0; s <= 5; s++) {
            test.due("speaker " + s, x.colour(s, (s + 1) % 4), true);
        }
        for (int s = 0; s <= 5; s++) {
            test.due("colour of " + s, x.count(10 + s), (s + 1) % 4);
        }
        test.due("back to 0", x.colour(0, 0), true);
        test.due("is 0", x.count(10), 0);
        test.due("the same again", x.colour(0, 0), true);
    }

    @Says(of = 5, words = "false: no such ones.")
    static void colourOfNoSuchOnes(Tester test) {
        NoEcho x = new NoEcho();
        for (int s = 0; s <= 5; s++) {
            x.colour(s, 2);
        }
        int[][] wrong = {{-1, 0}, {6, 0}, {LOW, 0}, {HIGH, 0}, {0, -1}, {0, 4}, {5, LOW}, {5, HIGH}, {6, 4}};
        for (int[] w : wrong) {
            test.due("colour " + w[0] + " " + w[1], x.colour(w[0], w[1]), false);
        }
        for (int s = 0; s <= 5; s++) {
            test.due("colour stays", x.count(10 + s), 2);
        }
    }
}
