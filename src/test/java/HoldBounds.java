/** The sentences on talks that are held, coded, heard, and on any talk: terms and promises 13 to 16. */
final class HoldBounds extends Bounds {
    private HoldBounds() {
    }

    @Says(of = 0, words = "HELD: SPEAKERS and THINGS are told, one behind the other (1 to 12):")
    static void heldFrom1To12(Tester test) {
        NoEcho x = tongue("a+");
        Tester.law(x, 0, "n(l=a)");
        held(test, x, 1, new int[2], 1, 1);
        held(test, x, 1, new int[24], 18, 1, 2, 1, 2, 1, 2, 1, 2, 1, 2, 1, 2);
        Tester.law(x, 0, "n(l<a+2)");
        held(test, x, 1, new int[24], 156, 2, 4, 6, 8, 10, 12, 14, 16, 18, 20, 22, 24);
        // each at its own place speaks
        int[] told = new int[24];
        for (int i = 0; i < 12; i++) {
            told[2 * i] = i % 6;
        }
        Tester.law(x, 0, "n(!s=k%6);n(k>0&!r=[k-1]%6);n(!l=2*k+2)");
        held(test, x, 1, told, 156, 2, 4, 6, 8, 10, 12, 14, 16, 18, 20, 22, 24);
        Tester.feed(x, new int[40]);
        test.due("0", x.held(1, 0, NONE), NONE);
        test.due("13", x.held(1, 13, NONE), NONE);
        test.due("13 at most", x.held(1, 13, 20), NONE);
        test.due("a place of 13", x.held(1, 13, 12), NONE);
    }

    @Says(of = 0, words = "LENGTHS by which each may be said by LAW 0, LAW 1 or both: of fewest words together;")
    static void heldWithFewestWords(Tester test) {
        NoEcho x = tongue("a|bb|ccc", "bb|ccc");
        Tester.law(x, 0, "n(l=a)");
        Tester.law(x, 1, "n(l=b)");
        int[] told = {0, 0, 1, 1, 0, 0, 1, 1};
        held(test, x, 1, told, 6, 1, 2, 1, 2);
        held(test, x, 2, told, 8, 1, 2, 2, 3);
        held(test, x, 3, told, 8, 2, 3, 1, 2);
        // one word more at first saves many behind it
        Tester.thing(x, 2, "a|b9b9b6");
        Tester.thing(x, 3, "a|bb");
        Tester.law(x, 0, "n(a=1&l=1)");
        held(test, x, 1, new int[] {0, 3, 0, 2}, 3, 2, 1);
        Tester.law(x, 0, "n(a=1&l=1);n(a=2&l=1)");
        held(test, x, 1, new int[] {0, 3, 0, 2}, 25, 1, 24);
        Tester.law(x, 0, "n(k=1&a=1&l<3)");
        held(test, x, 1, new int[] {0, 0, 0, 0}, 3, 2, 1);
        // who speaks, after whom, of which colour, and how many there were
        x.colour(5, 3);
        Tester.law(x, 0, "n(s=5&l<2);n(d=3&l<3)");
        held(test, x, 1, new int[] {5, 0, 4, 0, 3, 0}, 6, 2, 3, 1);
        Tester.law(x, 0, "n(r=4&l<2);n(k=2&l<3)");
        held(test, x, 1, new int[] {4, 0, 4, 0, 3, 0}, 6, 1, 2, 3);
    }

    @Says(of = 0, words = "of like ones the least row. If there are none:")
    static void heldInTheLeastRow(Tester test) {
        NoEcho x = tongue("a+");
        Tester.law(x, 0, "n(k=1&!a+l=6)");
        held(test, x, 1, new int[4], 6, 1, 5);
        Tester.law(x, 0, "n(k=2&!a+b+l=9)");
        held(test, x, 1, new int[6], 9, 1, 1, 7);
        Tester.law(x, 0, "n(l=a|l=b)");
        held(test, x, 1, new int[6], 6, 1, 2, 3);
        Tester.law(x, 0, "n(k=1&l<5&a<3);n(k=1&l<4&a>2)");
        held(test, x, 1, new int[4], 6, 1, 5);
        Tester.law(x, 0, "n(k=1&l<6&a<3);n(k=1&l<4&a>2)");
        held(test, x, 1, new int[4], 7, 1, 6);
        Tester.law(x, 0, "n(k=1&l<6&a<3);n(k=1&l<3&a>2)");
        held(test, x, 1, new int[4], 6, 3, 3);
    }

    @Says(of = 0, words = "If there are none: how many of them, from the first on, can be said at most.")
    static void heldAtMost(Tester test) {
        NoEcho x = tongue("a|bb", "a", "a+");
        Tester.law(x, 0, "n(l=a)");
        test.due("all of them", Tester.held(x, 1, 2, 20, 0, 0, 0, 1), 2);
        test.due("all but the last, by another first one", Tester.held(x, 1, 3, 20, 0, 0, 0, 1, 0, 1), 2);
        test.due("the last could be said again", Tester.held(x, 1, 4, 20, 0, 1, 0, 1, 0, 0, 0, 0), 1);
        test.due("none", Tester.held(x, 1, 3, 20, 0, 5, 0, 0, 0, 0), 0);
        test.due("none of one", Tester.held(x, 1, 1, 20, 0, 5), 0);
        Tester.law(x, 0, "n(l<a+2);n(l<3)");
        int[] twelve = new int[24];
        for (int i = 0; i < 12; i++) {
            twelve[2 * i + 1] = 2;
        }
        test.due("eleven of twelve", Tester.held(x, 1, 12, 20, twelve), 11);
        test.due("twelve can't be", Tester.held(x, 1, 12, NONE, twelve), -2);
        Tester.law(x, 0, "n(k=11)");
        test.due("the twelfth alone", Tester.held(x, 1, 12, 20, twelve), 11);
    }

    @Says(of = 0, words = "CODED: likewise by LAW 0, each LENGTH modulo m (2 to 5) being a told digit.")
    static void codedModulo2To5(Tester test) {
        NoEcho x = tongue("a+");
        Tester.law(x, 1, "n(0=0)");
        for (int m = 2; m <= 5; m++) {
            for (int digit = 0; digit < m; digit++) {
                int least = digit == 0 ? m : digit;
                coded(test, x, m, new int[] {0, 0, digit}, least, least);
            }
        }
        Tester.law(x, 0, "n(l=a)");
        coded(test, x, 5, new int[] {0, 0, 4, 0, 0, 4}, 13, 4, 9);
        coded(test, x, 2, new int[] {0, 0, 0, 1, 0, 0, 2, 0, 1}, 7, 2, 4, 1);
        int[] told = new int[36];
        for (int i = 0; i < 12; i++) {
            told[3 * i] = i % 6;
            told[3 * i + 2] = (2 * i + 2) % 5;
        }
        Tester.law(x, 0, "n(!s=k%6);n(k>0&!r=[k-1]%6);n(!l=2*k+2)");
        coded(test, x, 5, told, 156, 2, 4, 6, 8, 10, 12, 14, 16, 18, 20, 22, 24);
        Tester.law(x, 0, "n(!l=24)");
        coded(test, x, 5, new int[] {0, 0, 4}, 24, 24);
        test.due("24 modulo 5 is not 3", Tester.coded(x, 5, 1, NONE, 0, 0, 3), -2);
        Tester.feed(x, new int[20]);
        for (int m : new int[] {1, 6, 0, -1, -2, LOW, HIGH}) {
            test.due("modulo " + m, x.coded(m, 1, NONE), NONE);
        }
    }

    @Says(of = 0, words = "HEARD: SPEAKERS and LENGTHS are told, one behind the other (1 to 8): rows of THINGS that were said so (by LAW 0):")
    static void heardFrom1To8(Tester test) {
        NoEcho x = tongue("a", "a|bb", "bb");
        Tester.law(x, 0, "n(t=2&a=0)");
        Tester.law(x, 1, "n(0=0)");
        int[] told = {0, 1, 5, 2, 0, 1, 5, 2, 0, 1, 5, 2, 0, 1, 5, 2, 9, 9};
        long rows = 1;
        for (int n = 1; n <= 8; n++) {
            rows *= 2;
            test.due("rows of " + n, Tester.heard(x, n, NONE, told), rows);
        }
        test.due("law 0 is asked", Tester.heard(x, 1, NONE, 0, 2), 1);
        Tester.feed(x, told);
        test.due("0", x.heard(0, NONE), NONE);
        test.due("9", x.heard(9, NONE), NONE);
        x.check(0);
        // a, b, r and k go on
        Tester.law(x, 0, "n(t=1&!(k=0&a=0|k=1&a=1&b=0&r=3|k=2&a=2&b=1&r=4))");
        test.due("the last two", Tester.heard(x, 4, NONE, 3, 1, 4, 2, 5, 1, 5, 1), 8);
        test.due("not at the last", Tester.heard(x, 4, 13, 3, 1, 4, 2, 5, 1, 5, 1), bits(0));
    }

    @Says(of = 0, words = "how many; the first one (least row);")
    static void heardFirstRow(Tester test) {
        NoEcho x = new NoEcho();
        Tester.thing(x, 3, "a|bb");
        Tester.thing(x, 7, "a|bb");
        Tester.thing(x, 11, "bb|ccc");
        test.due("how many", Tester.heard(x, 3, NONE, 0, 1, 0, 2, 0, 3), 6);
        test.due("place 0", Tester.heard(x, 3, 0, 0, 1, 0, 2, 0, 3), 3);
        test.due("place 1", Tester.heard(x, 3, 1, 0, 1, 0, 2, 0, 3), 3);
        test.due("place 2", Tester.heard(x, 3, 2, 0, 1, 0, 2, 0, 3), 11);
        Tester.law(x, 0, "n(t=3&k=1)");
        test.due("then place 1", Tester.heard(x, 3, 1, 0, 1, 0, 2, 0, 3), 7);
        for (int t = 0; t < 12; t++) {
            Tester.thing(x, t, "a");
        }
        Tester.law(x, 0, "n(0=1)");
        int[] told = {0, 1, 0, 1, 0, 1, 0, 1, 0, 1, 0, 1, 0, 1, 0, 1};
        test.due("the most rows", Tester.heard(x, 8, NONE, told), 429981696L);
    }

    @Says(of = 0, words = "at a place THINGS that it may have been (bits).")
    static void heardThingsAtAPlace(Tester test) {
        NoEcho x = tongueOfAll("a|bb");
        test.due("all", Tester.heard(x, 2, 10, 0, 1, 0, 2), 4095);
        Tester.law(x, 0, "n(!t=11)");
        test.due("the last thing", Tester.heard(x, 2, 11, 0, 1, 0, 2), bits(11));
        Tester.law(x, 0, "n(!t=0)");
        test.due("the first thing", Tester.heard(x, 2, 11, 0, 1, 0, 2), bits(0));
        Tester.law(x, 0, "n(k=1)");
        test.due("no whole row", Tester.heard(x, 2, 10, 0, 1, 0, 2), 0);
    }

    @Says(of = 0, words = "ANY TALK: THINGS (bits, 1 to 4 of them), n SENTENCES (1 to 5)")
    static void anyTalkOf1To4(Tester test) {
        NoEcho x = tongueOfAll("a|bb");
        Tester.law(x, 0, "n(l=a)");
        for (int n = 1; n <= 5; n++) {
            test.due("one thing", x.anyTalk(bits(11), n, NONE), 1);
            test.due("four things", x.anyTalk(bits(0, 5, 10, 11), n, NONE), 1);
        }
        Tester.law(x, 0, "n(t=11&k=4)");
        test.due("the fourth thing at the fifth place", x.anyTalk(bits(0, 5, 10, 11), 5, NONE), 0);
        test.due("not yet", x.anyTalk(bits(0, 5, 10, 11), 4, NONE), 1);
        for (int things : new int[] {0, bits(0, 1, 2, 3, 4), 4095, bits(12), bits(0, 12), bits(31), -1, LOW}) {
            test.due("things " + things, x.anyTalk(things, 1, NONE), -3);
        }
        for (int n : new int[] {0, 6, -1, LOW, HIGH}) {
            test.due("sentences " + n, x.anyTalk(1, n, NONE), -3);
        }
    }

    @Says(of = 0, words = "by SPEAKERS 0 and 1 by turns (0 first):")
    static void anyTalkByTurns(Tester test) {
        NoEcho x = tongue("a", "a");
        Tester.law(x, 0, "n(s>1);n(s=0&k%2=1);n(s=1&k%2=0)");
        test.due("0 first", x.anyTalk(3, 5, NONE), 1);
        Tester.law(x, 0, "n(s=0)");
        test.due("without 0 nothing", x.anyTalk(3, 1, NONE), 0);
        Tester.law(x, 0, "n(s=1)");
        test.due("0 alone", x.anyTalk(3, 1, NONE), 1);
        test.due("1 is the second", x.anyTalk(3, 2, NONE), 0);
        Tester.law(x, 0, "n(k>0&!r=1-s)");
        test.due("the other one is ahead", x.anyTalk(3, 5, NONE), 1);
        x.colour(0, 1);
        x.colour(1, 2);
        Tester.law(x, 0, "n(k>0&!c+d=3);n(k=0&!c=1)");
        test.due("colours by turns", x.anyTalk(3, 5, NONE), 1);
        Tester.law(x, 0, "n(k=1&!r=5);n(k=2&!r=0)");
        x.say(5, 0, 1);
        test.due("behind the talk", x.anyTalk(3, 5, NONE), 1);
    }

    @Says(of = 0, words = "whether each row of these THINGS can be HELD (by LAW 0); the first row that can't.")
    static void anyTalkFirstRowThatCant(Tester test) {
        NoEcho x = tongue("a|bb|ccc", "a|bb", "a");
        Tester.law(x, 0, "n(l=a|l=b)");
        Tester.law(x, 1, "n(0=0)");
        test.due("law 1 is not asked", x.anyTalk(bits(0), 5, NONE), 1);
        // 0 1 1 0 can be held (3 1 2 3), and each row ahead of it
        row(test, x, bits(0, 1), 0, 1, 1, 1);
        row(test, x, bits(1), 1, 1, 1);
        row(test, x, bits(0, 2), 0, 2, 2);
        row(test, x, bits(2), 2, 2);
        Tester.law(x, 0, "n(t=1&k=1)");
        row(test, x, bits(0, 1), 0, 1, 0, 0, 0);
        row(test, x, bits(1, 2), 1, 1, 1);
        Tester.law(x, 0, "n(t=2&k=0)");
        row(test, x, bits(0, 1, 2), 2, 0, 0);
        // speaker 1 may say thing 1 as the second one only, speaker 0 always
        Tester.law(x, 0, "n(s=1&b>0&t=1)");
        row(test, x, bits(0, 1), 0, 0, 0, 1);
        row(test, x, bits(0, 1), 0, 0, 0, 1, 0);
        test.due("of three each", x.anyTalk(bits(0, 1), 3, NONE), 1);
    }

    private static void row(Tester test, NoEcho x, int things, int... due) {
        test.due("not each", x.anyTalk(things, due.length, NONE), 0);
        for (int i = 0; i < due.length; i++) {
            test.due("place " + i, x.anyTalk(things, due.length, i), due[i]);
        }
    }

    @Says(of = 13, words = "HELD by LAWS (1: LAW 0, 2: LAW 1, 3: both)")
    static void heldByWhichLaws(Tester test) {
        NoEcho x = tongue("a|bb|ccc");
        Tester.law(x, 0, "n(l=1)");
        Tester.law(x, 1, "n(l=2)");
        test.due("law 0", Tester.held(x, 1, 1, NONE, 0, 0), 2);
        test.due("law 1", Tester.held(x, 2, 1, NONE, 0, 0), 1);
        test.due("both", Tester.held(x, 3, 1, NONE, 0, 0), 3);
        Tester.feed(x, new int[20]);
        for (int laws : new int[] {0, 4, 5, 7, -1, LOW, HIGH}) {
            test.due("laws " + laws, x.held(laws, 1, NONE), NONE);
        }
        test.due("the tape stays", x.count(4), 20);
    }

    @Says(of = 13, words = "by the first 2 n bytes of the tape (SPEAKER, THING; empty then),")
    static void heldByTheFirstBytes(Tester test) {
        NoEcho x = tongue("a", "bb");
        test.due("what is behind is not looked at", Tester.held(x, 1, 2, NONE, 5, 1, 0, 0, 9, 99), 3);
        test.due("the tape is empty", x.count(4), 0);
        test.due("nothing is left", x.held(1, 1, NONE), NONE);
        Tester.feed(x, new int[220]);
        test.due("a full tape", x.held(1, 12, NONE), 12);
        test.due("it is empty", x.count(4), 0);
        Tester.held(x, 1, 1, NONE, 0, 2);
        test.due("empty at -2", x.count(4), 0);
        Tester.held(x, 1, 1, NONE, 6, 0);
        test.due("empty at -3", x.count(4), 0);
    }

    @Says(of = 13, words = "what NONE words, 20 how many can be said at most, else the LENGTH at place what;")
    static void heldWhat(Tester test) {
        NoEcho x = tongue("a", "bb", "a9a9a6");
        int[] told = {0, 0, 0, 1, 0, 2};
        test.due("words", Tester.held(x, 1, 3, NONE, told), 27);
        test.due("at most", Tester.held(x, 1, 3, 20, told), 3);
        test.due("place 0", Tester.held(x, 1, 3, 0, told), 1);
        test.due("place 1", Tester.held(x, 1, 3, 1, told), 2);
        test.due("place 2", Tester.held(x, 1, 3, 2, told), 24);
        int[] twelve = new int[24];
        for (int i = 0; i < 12; i++) {
            twelve[2 * i + 1] = 2;
        }
        test.due("the most words", Tester.held(x, 1, 12, NONE, twelve), 288);
        test.due("place 11", Tester.held(x, 1, 12, 11, twelve), 24);
    }

    @Says(of = 13, words = "-2: it can't be (not of 20);")
    static void heldCantBe(Tester test) {
        NoEcho x = tongue("a");
        Tester.law(x, 0, "n(k=1)");
        int[] told = {0, 0, 0, 0, 0, 0};
        test.due("words", Tester.held(x, 1, 3, NONE, told), -2);
        for (int i = 0; i < 3; i++) {
            test.due("place " + i, Tester.held(x, 1, 3, i, told), -2);
        }
        test.due("20", Tester.held(x, 1, 3, 20, told), 1);
        test.due("none of a thing without lengths", Tester.held(x, 1, 1, NONE, 0, 1), -2);
        test.due("20 of it", Tester.held(x, 1, 1, 20, 0, 1), 0);
        test.due("law 1 lets it", Tester.held(x, 2, 3, NONE, told), 3);
    }

    @Says(of = 13, words = "-3: no such SPEAKER, THING;")
    static void heldOfNoSuchSpeaker(Tester test) {
        NoEcho x = tongueOfAll("a");
        test.due("the highest ones", Tester.held(x, 1, 1, NONE, 5, 11), 1);
        for (int what : new int[] {NONE, 20, 0, 1}) {
            test.due("speaker 6", Tester.held(x, 1, 2, what, 0, 0, 6, 0), -3);
            test.due("speaker 255", Tester.held(x, 1, 2, what, 255, 0, 0, 0), -3);
            test.due("thing 12", Tester.held(x, 1, 2, what, 0, 0, 0, 12), -3);
            test.due("thing 255", Tester.held(x, 1, 2, what, 0, 255, 0, 0), -3);
        }
        Tester.law(x, 0, "n(0=0)");
        test.due("behind one that can't be said", Tester.held(x, 1, 2, 20, 0, 0, 6, 0), -3);
    }

    @Says(of = 13, words = "NONE also: no such ones (what 0 to n - 1),")
    static void heldOfNoSuchOnes(Tester test) {
        NoEcho x = tongue("a");
        Tester.feed(x, new int[40]);
        for (int n : new int[] {0, -1, 13, LOW, HIGH}) {
            test.due("n " + n, x.held(1, n, NONE), NONE);
        }
        for (int what : new int[] {-2, 3, 12, 19, 21, LOW, HIGH}) {
            test.due("what " + what, x.held(1, 3, what), NONE);
        }
        test.due("what 12 of 12", x.held(1, 12, 12), NONE);
        test.due("the tape stays", x.count(4), 40);
        test.due("what 2 of 3", x.held(1, 3, 2), 1);
        Tester.feed(x, 6, 12);
        test.due("ahead of -3", x.held(1, 1, 1), NONE);
    }

    @Says(of = 13, words = "it has not so many (the tape stays).")
    static void heldOfAShortTape(Tester test) {
        NoEcho x = tongue("a");
        test.due("an empty tape", x.held(1, 1, NONE), NONE);
        Tester.feed(x, new int[20]);
        test.due("22 bytes of 20", x.held(1, 11, NONE), NONE);
        test.due("the tape stays", x.count(4), 20);
        test.due("20 bytes of 20", x.held(1, 10, NONE), 10);
    }

    @Says(of = 14, words = "CODED by the first 3 n bytes of the tape (SPEAKER, THING, digit below m; empty then),")
    static void codedByTheFirstBytes(Tester test) {
        NoEcho x = tongue("a+", "bb|ccc");
        test.due("what is behind is not looked at", Tester.coded(x, 3, 2, NONE, 5, 1, 0, 0, 0, 2, 9, 99, 9), 5);
        test.due("the tape is empty", x.count(4), 0);
        test.due("nothing is left", x.coded(2, 1, NONE), NONE);
        Tester.feed(x, new int[220]);
        test.due("a full tape, twelve of it", x.coded(2, 12, NONE), 24);
        test.due("it is empty", x.count(4), 0);
        Tester.coded(x, 2, 1, NONE, 0, 2, 0);
        test.due("empty at -2", x.count(4), 0);
        Tester.coded(x, 2, 1, NONE, 0, 0, 2);
        test.due("empty at -3", x.count(4), 0);
        Tester.feed(x, new int[20]);
        test.due("21 bytes of 20", x.coded(2, 7, NONE), NONE);
        test.due("the tape stays", x.count(4), 20);
        test.due("18 bytes of 20", x.coded(2, 6, NONE), 12);
        Tester.feed(x, new int[60]);
        for (int n : new int[] {0, -1, 13, 20, LOW, HIGH, 0x55555556}) {
            test.due("n " + n, x.coded(2, n, NONE), NONE);
        }
        test.due("60 bytes stay", x.count(4), 60);
    }

    @Says(of = 14, words = "what as in held();")
    static void codedWhat(Tester test) {
        NoEcho x = tongue("a+", "bb");
        int[] told = {0, 0, 4, 0, 0, 0};
        test.due("words", Tester.coded(x, 5, 2, NONE, told), 9);
        test.due("at most", Tester.coded(x, 5, 2, 20, told), 2);
        test.due("place 0", Tester.coded(x, 5, 2, 0, told), 4);
        test.due("place 1", Tester.coded(x, 5, 2, 1, told), 5);
        int[] cant = {0, 1, 0, 0, 1, 1};
        test.due("it can't be", Tester.coded(x, 2, 2, NONE, cant), -2);
        test.due("a place of it", Tester.coded(x, 2, 2, 0, cant), -2);
        test.due("one at most", Tester.coded(x, 2, 2, 20, cant), 1);
        Tester.feed(x, told);
        for (int what : new int[] {-2, 2, 12, 19, 21, LOW, HIGH}) {
            test.due("what " + what, x.coded(5, 2, what), NONE);
        }
        test.due("the tape stays", x.count(4), 20);
    }

    @Says(of = 14, words = "-3 also: no such digit.")
    static void codedOfNoSuchDigit(Tester test) {
        NoEcho x = tongueOfAll("a+");
        for (int m = 2; m <= 5; m++) {
            test.due("the highest digit", Tester.coded(x, m, 1, NONE, 5, 11, m - 1), m - 1);
            test.due("digit m", Tester.coded(x, m, 1, NONE, 0, 0, m), -3);
            test.due("digit 255", Tester.coded(x, m, 1, 20, 0, 0, 255), -3);
            test.due("the second one", Tester.coded(x, m, 2, 0, 0, 0, 0, 0, 0, m), -3);
        }
        test.due("speaker 6", Tester.coded(x, 2, 2, NONE, 0, 0, 0, 6, 0, 0), -3);
        test.due("thing 12", Tester.coded(x, 2, 2, 20, 0, 0, 0, 0, 12, 0), -3);
    }

    @Says(of = 15, words = "HEARD by the first 2 n bytes of the tape (SPEAKER, LENGTH 1 to 24; empty then),")
    static void heardByTheFirstBytes(Tester test) {
        NoEcho x = tongue("a+", "a9a9a6");
        test.due("24 words", Tester.heard(x, 2, NONE, 5, 24, 0, 1, 9, 99), 2);
        test.due("the tape is empty", x.count(4), 0);
        test.due("nothing is left", x.heard(1, NONE), NONE);
        Tester.heard(x, 1, 0, 0, 25);
        test.due("empty at -3", x.count(4), 0);
        Tester.law(x, 0, "n(0=0)");
        test.due("none", Tester.heard(x, 1, 0, 0, 1), -2);
        test.due("empty at -2", x.count(4), 0);
    }

    @Says(of = 15, words = "what NONE how many, 10 + i THINGS at place i (bits; 0: none), else the THING at place what of the first row;")
    static void heardWhat(Tester test) {
        NoEcho x = tongue("a|bb", "a");
        Tester.thing(x, 11, "bb");
        int[] told = {0, 1, 0, 2, 0, 1, 0, 2, 0, 1, 0, 2, 0, 1, 0, 2};
        test.due("how many", Tester.heard(x, 8, NONE, told), 256);
        for (int i = 0; i < 8; i++) {
            test.due("bits at " + i, Tester.heard(x, 8, 10 + i, told), i % 2 == 0 ? bits(0, 1) : bits(0, 11));
            test.due("first row at " + i, Tester.heard(x, 8, i, told), 0);
        }
        Tester.law(x, 0, "n(t=0)");
        test.due("then 1", Tester.heard(x, 8, 6, told), 1);
        test.due("and 11", Tester.heard(x, 8, 7, told), 11);
        test.due("no things", Tester.heard(x, 1, 10, 0, 3), 0);
    }

    @Says(of = 15, words = "-2: none;")
    static void heardNone(Tester test) {
        NoEcho x = tongue("a");
        Tester.law(x, 0, "n(k=2)");
        int[] told = {0, 1, 0, 1, 0, 1};
        for (int i = 0; i < 3; i++) {
            test.due("no first row at " + i, Tester.heard(x, 3, i, told), -2);
            test.due("no things at " + i, Tester.heard(x, 3, 10 + i, told), 0);
        }
        test.due("no rows", Tester.heard(x, 3, NONE, told), 0);
        test.due("a length that no thing has", Tester.heard(x, 1, 0, 0, 2), -2);
        test.due("one row ahead of it", Tester.heard(x, 2, 1, told), 0);
    }

    @Says(of = 15, words = "-3: no such SPEAKER, LENGTH;")
    static void heardOfNoSuchSpeaker(Tester test) {
        NoEcho x = tongue("a+");
        test.due("the highest ones", Tester.heard(x, 1, NONE, 5, 24), 1);
        for (int what : new int[] {NONE, 0, 1, 10, 11}) {
            test.due("speaker 6", Tester.heard(x, 2, what, 0, 1, 6, 1), -3);
            test.due("speaker 255", Tester.heard(x, 2, what, 255, 1, 0, 1), -3);
            test.due("length 0", Tester.heard(x, 2, what, 0, 1, 0, 0), -3);
            test.due("length 25", Tester.heard(x, 2, what, 0, 25, 0, 1), -3);
            test.due("length 33", Tester.heard(x, 2, what, 0, 33, 0, 1), -3);
            test.due("length 255", Tester.heard(x, 2, what, 0, 1, 0, 255), -3);
        }
        Tester.law(x, 0, "n(0=0)");
        test.due("behind one that can't be", Tester.heard(x, 2, NONE, 0, 1, 6, 1), -3);
    }

    @Says(of = 15, words = "-1 also: no such ones,")
    static void heardOfNoSuchOnes(Tester test) {
        NoEcho x = tongue("a");
        int[] told = {0, 1, 0, 1, 0, 1, 0, 1, 0, 1, 0, 1, 0, 1, 0, 1, 0, 1, 0, 1};
        Tester.feed(x, told);
        for (int n : new int[] {0, -1, 9, 10, LOW, HIGH}) {
            test.due("n " + n, x.heard(n, NONE), NONE);
        }
        for (int what : new int[] {-2, 3, 8, 9, 13, 18, 20, LOW, HIGH}) {
            test.due("what " + what, x.heard(3, what), NONE);
        }
        test.due("what 8 of 8", x.heard(8, 8), NONE);
        test.due("what 9 of 8", x.heard(8, 9), NONE);
        test.due("what 18 of 8", x.heard(8, 18), NONE);
        test.due("the tape stays", x.count(4), 20);
        test.due("what 17 of 8", x.heard(8, 17), 1);
        Tester.feed(x, 6, 0);
        test.due("ahead of -3", x.heard(1, 1), NONE);
    }

    @Says(of = 15, words = "it has not so many (the tape stays).")
    static void heardOfAShortTape(Tester test) {
        NoEcho x = tongue("a");
        // a feed is of twenty bytes, and eight ask for sixteen: only an empty tape is too short
        for (int n = 1; n <= 8; n++) {
            test.due("an empty tape", x.heard(n, NONE), NONE);
        }
        test.due("it stays empty", x.count(4), 0);
        test.due("a feed is enough", Tester.heard(x, 8, NONE, 0, 1, 0, 1, 0, 1, 0, 1, 0, 1, 0, 1, 0, 1, 0, 1), 1);
    }

    @Says(of = 16, words = "ANY TALK of THINGS (bits), what NONE whether each can be HELD (1, 0), else the THING at place what of the first row that can't;")
    static void anyTalkWhat(Tester test) {
        NoEcho x = tongue("a|bb", "a");
        Tester.law(x, 0, "n(l=a)");
        test.due("each", x.anyTalk(1, 5, NONE), 1);
        test.due("not each", x.anyTalk(3, 5, NONE), 0);
        int[] due = {0, 0, 0, 1, 1};
        for (int i = 0; i < 5; i++) {
            test.due("place " + i, x.anyTalk(3, 5, i), due[i]);
        }
        test.due("a thing without lengths", x.anyTalk(bits(11), 1, 0), 11);
    }

    @Says(of = 16, words = "-2: all can;")
    static void anyTalkAllCan(Tester test) {
        NoEcho x = tongue("a|bb");
        Tester.law(x, 0, "n(l=a)");
        for (int n = 1; n <= 5; n++) {
            for (int what = 0; what < n; what++) {
                test.due("place " + what, x.anyTalk(1, n, what), -2);
            }
            test.due("all can", x.anyTalk(1, n, NONE), 1);
        }
    }

    @Says(of = 16, words = "-3: no such ones, no such place.")
    static void anyTalkOfNoSuchOnes(Tester test) {
        NoEcho x = tongue("a|bb", "a");
        Tester.law(x, 0, "n(l=a)");
        for (int things : new int[] {1, 3}) {
            for (int what : new int[] {-2, 5, 6, 20, LOW, HIGH}) {
                test.due("place " + what, x.anyTalk(things, 5, what), -3);
            }
            test.due("place 1 of 1", x.anyTalk(things, 1, 1), -3);
            for (int n : new int[] {0, -1, 6, LOW, HIGH}) {
                test.due("n " + n, x.anyTalk(things, n, NONE), -3);
            }
        }
        for (int things : new int[] {0, bits(12), bits(0, 12), bits(0, 1, 2, 3, 4), bits(0, 31), -1}) {
            test.due("things " + things, x.anyTalk(things, 1, NONE), -3);
            test.due("a place of them", x.anyTalk(things, 1, 0), -3);
        }
    }
}
