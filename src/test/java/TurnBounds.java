/** The sentences on who silences whom, how soon somebody may say a length, and rounds: terms and promises 17 to 19. */
final class TurnBounds extends Bounds {
    private static final int[] ONE_EACH = {0, 1, 1, 1};

    private TurnBounds() {
    }

    @Says(of = 0, words = "SILENCED: two SPEAKERS by turns (the first one begins) say any of their THINGS (bits each) as LAW 0 lets them,")
    static void silencedByTurns(Tester test) {
        NoEcho x = tongueOfAll("a");
        Tester.law(x, 1, "n(0=0)");
        // speaker 4 begins with thing 11 alone, speaker 2 answers with thing 0 alone
        Tester.law(x, 0, "n(s=4&!t=11);n(s=2&!t=0);n(s=4&k%2=1);n(s=2&k%2=0)");
        silenced(test, x, new int[] {4, bits(11), 2, bits(0)}, 6, 0, 11, 1);
        silenced(test, x, new int[] {4, bits(0), 2, bits(0)}, 6, -1, -2, -2);
        silenced(test, x, new int[] {4, bits(11), 2, bits(11)}, 6, 1, 11, 1);
        silenced(test, x, new int[] {4, 4095, 2, 4095}, 6, 0, 11, 1);
        Tester.law(x, 0, "n(k>0&!r=6-s);n(k=0&!s=4)");
        silenced(test, x, new int[] {4, 1, 2, 1}, 6, 0, 0, 1);
        x.colour(4, 1);
        x.colour(2, 2);
        Tester.law(x, 0, "n(k>0&!d=3-c)");
        silenced(test, x, new int[] {4, 1, 2, 1}, 6, 0, 0, 1);
        Tester.law(x, 0, "n(t=0|t=11)");
        silenced(test, x, new int[] {4, 4095, 2, 4095}, 6, 0, 1, 1);
        silenced(test, x, new int[] {4, 4095, 2, bits(0, 11)}, 6, 1, 1, 1);
    }

    @Says(of = 0, words = "n SENTENCES at most (1 to 6): who can't say anything has lost; behind n nobody has.")
    static void silencedBehindN(Tester test) {
        NoEcho x = tongue("a");
        for (int last = 0; last <= 6; last++) {
            Tester.law(x, 0, "n(k=" + last + ")");
            for (int n = 1; n <= 6; n++) {
                int due = n <= last ? 0 : last % 2 == 0 ? -1 : 1;
                int first = last == 0 ? -2 : 1;
                silenced(test, x, ONE_EACH, n, due, last == 0 ? -2 : 0, first);
            }
        }
        for (int n : new int[] {0, 7, -1, LOW, HIGH}) {
            test.due("sentences " + n, x.silenced(0, 1, 1, 1, n, 0), -3);
        }
    }

    @Says(of = 0, words = "Both play as well as can be: 1 the first one wins, -1 it loses, 0 else;")
    static void bothPlayWell(Tester test) {
        NoEcho x = tongue("a|bb|ccc|dddd");
        // each longer than the last: a four silences
        Tester.law(x, 0, "n(l<a+1)");
        silenced(test, x, ONE_EACH, 6, 1, 0, 4);
        silenced(test, x, ONE_EACH, 2, 1, 0, 4);
        silenced(test, x, ONE_EACH, 1, 0, 0, 1);
        // longer by one or two: who says the four wins, so a one wins and a two or three does not
        Tester.law(x, 0, "n(l<a+1|l>a+2)");
        silenced(test, x, ONE_EACH, 6, 1, 0, 1);
        silenced(test, x, ONE_EACH, 3, 0, 0, 1);
        x.say(5, 0, 1);
        silenced(test, x, ONE_EACH, 6, -1, 0, 2);
        Tester.law(x, 0, "n(s=1&a=2)");
        silenced(test, x, ONE_EACH, 6, 1, 0, 1);
        silenced(test, x, ONE_EACH, 2, 1, 0, 2);
        silenced(test, x, new int[] {1, 1, 0, 1}, 6, -1, 0, 1);
        silenced(test, x, new int[] {1, 1, 0, 1}, 2, 0, 0, 1);
    }

    @Says(of = 0, words = "its first SENTENCE (of like ones the least THING, then LENGTH).")
    static void silencedFirstSentence(Tester test) {
        NoEcho x = tongueOfAll("a");
        Tester.thing(x, 2, "dddd");
        Tester.thing(x, 5, "a|bb|dddd");
        int[] alone = {0, bits(2, 5), 1, 0};
        silenced(test, x, alone, 6, 1, 2, 4);
        silenced(test, x, alone, 1, 0, 2, 4);
        silenced(test, x, new int[] {0, bits(5), 1, 0}, 6, 1, 5, 1);
        silenced(test, x, new int[] {0, bits(5, 11), 1, bits(0)}, 6, 0, 5, 1);
        // what does not come to the same is passed over: two words win, one or four go on
        Tester.law(x, 0, "n(a=2)");
        silenced(test, x, new int[] {0, bits(2, 5, 11), 1, bits(0)}, 2, 1, 5, 2);
        // who loses in any case begins with the least
        Tester.law(x, 0, "n(k=2)");
        silenced(test, x, new int[] {0, bits(5, 11), 1, bits(0)}, 3, -1, 5, 1);
        // a loss is passed over for what nobody wins
        Tester.law(x, 0, "n(k=2&b=1)");
        silenced(test, x, new int[] {0, bits(5, 11), 1, bits(0)}, 3, 0, 5, 2);
    }

    @Says(of = 0, words = "WAITED: how many SENTENCES must be said (0 to 5; by any SPEAKERS of some (bits), any THINGS, by LAW 0)")
    static void waitedFrom0To5(Tester test) {
        NoEcho x = tongue("a+");
        Tester.law(x, 0, "n(l>a+1)");
        Tester.law(x, 1, "n(0=0)");
        for (int l = 1; l <= 24; l++) {
            test.due("length " + l, x.waited(63, l), l <= 6 ? l - 1 : -2);
        }
        for (int k = 0; k <= 7; k++) {
            Tester.law(x, 0, "n(l=24&k<" + k + ")");
            test.due("not ahead of " + k, x.waited(1, 24), k <= 5 ? k : -2);
        }
        // speaker 5 must be followed by speaker 0, and thing 3 stands between
        Tester.thing(x, 3, "bb");
        Tester.law(x, 0, "n(l=9&!(s=0&r=5&a=2));n(t=0&l=2)");
        test.due("both and any thing", x.waited(bits(0, 5), 9), 1);
        test.due("one of them", x.waited(bits(0), 9), -2);
        test.due("the other", x.waited(bits(5), 9), -2);
        Tester.law(x, 0, "n(l=9&!r=5)");
        test.due("behind speaker 5", x.waited(bits(0, 5), 9), 1);
        test.due("who is not there", x.waited(bits(0, 4), 9), -2);
        Tester.law(x, 0, "n(t=0&!a=2)");
        test.due("thing 3 comes first", x.waited(1, 9), 1);
        test.due("and can be said at once", x.waited(1, 2), 0);
        Tester.law(x, 0, "n(0=0)");
        test.due("nothing may be said", x.waited(63, 1), -2);
    }

    @Says(of = 0, words = "till somebody of them may say one of a told LENGTH (of any THING): the fewest.")
    static void waitedForSomebody(Tester test) {
        NoEcho x = tongueOfAll("a");
        Tester.thing(x, 11, "a|b5");
        test.due("at once", x.waited(bits(5), 5), 0);
        test.due("no thing has it", x.waited(63, 6), -2);
        Tester.law(x, 0, "n(l=5&!s=5)");
        test.due("speaker 5 is there", x.waited(bits(0, 5), 5), 0);
        test.due("it is not", x.waited(bits(0, 1, 2, 3, 4), 5), -2);
        Tester.law(x, 0, "n(l=5&a=1)");
        x.say(0, 0, 1);
        test.due("behind a one never", x.waited(63, 5), -2);
        Tester.thing(x, 10, "bb|b7");
        test.due("behind another one", x.waited(63, 5), 1);
        Tester.law(x, 0, "n(l=5&!(a=2&b=7))");
        test.due("seven, then two", x.waited(1, 5), 2);
        x.colour(4, 3);
        Tester.law(x, 0, "n(l=5&!d=3)");
        test.due("behind colour 3", x.waited(bits(1, 4), 5), 1);
        test.due("it is not there", x.waited(bits(1, 3), 5), -2);
        Tester.law(x, 0, "n(l=5&!c=3)");
        test.due("of colour 3", x.waited(bits(1, 4), 5), 0);
    }

    @Says(of = 0, words = "A ROUND (by LAW 0): LENGTHS (2 to 6 of them) of one THING that SPEAKERS 0, 1 by turns could go on saying for ever,")
    static void roundsOf2To6(Tester test) {
        NoEcho x = tongue("a+", "a|bb");
        Tester.law(x, 1, "n(0=0)");
        rounded(test, x, 0, 1, 1);
        Tester.law(x, 0, "n(!l=a%2+1)");
        rounded(test, x, 0, 1, 2);
        Tester.law(x, 0, "n(!l=a%4+1)");
        rounded(test, x, 0, 1, 2, 3, 4);
        Tester.law(x, 0, "n(!l=a%6+1)");
        rounded(test, x, 0, 1, 2, 3, 4, 5, 6);
        Tester.law(x, 0, "n(!l=a%8+1)");
        rounded(test, x, 0);
        Tester.law(x, 0, "n(t=0)");
        rounded(test, x, 0);
        rounded(test, x, 1, 1, 1);
        Tester.law(x, 0, "n(s>1);n(s=0&l=1);n(s=1&l=2)");
        rounded(test, x, 1, 2, 1);
        Tester.law(x, 0, "n(s=1)");
        rounded(test, x, 1);
        Tester.thing(x, 1, "a|bb|ccc|a9a9a6");
        Tester.law(x, 0, "n(l=a|l=b)");
        rounded(test, x, 1, 1, 2, 3, 24);
        Tester.thing(x, 1, "a|bb|a9a9a6");
        rounded(test, x, 1, 1, 2, 24, 1, 2, 24);
        Tester.law(x, 0, "n(!l=24)");
        rounded(test, x, 0, 24, 24);
        Tester.thing(x, 1, "a|bb");
        rounded(test, x, 1);
        rounded(test, x, 2);
    }

    @Says(of = 0, words = "begun after themselves (a and b are the two ahead in the row, round it: of the first one the last and the last but one;")
    static void roundsBegunAfterThemselves(Tester test) {
        NoEcho x = tongue("a|bb|ccc");
        Tester.law(x, 0, "n(a=0|b=0)");
        rounded(test, x, 0, 1, 1);
        Tester.law(x, 0, "n(0=1)");
        x.say(5, 0, 3);
        Tester.law(x, 0, "n(a=3|b=3|r=5)");
        test.due("nothing may be said", x.ways(0, 0, 0), 0);
        rounded(test, x, 0, 1, 1);
        // in a row of two, b is the length itself
        Tester.law(x, 0, "n(!l=b)");
        rounded(test, x, 0, 1, 1);
        Tester.law(x, 0, "n(l=b)");
        rounded(test, x, 0, 1, 1, 2, 2);
        Tester.law(x, 0, "n(!l=b%3+1)");
        rounded(test, x, 0, 1, 1, 2, 2, 3, 3);
        // going up by one or back to one is right from the last to the first, too
        Tester.law(x, 0, "n(!l=a+1&!(a=3&l=1))");
        rounded(test, x, 0, 1, 2, 3, 1, 2, 3);
        Tester.law(x, 0, "n(!l=a+1&!(a=3&l=1));n(a=3&b=2&s=0)");
        rounded(test, x, 0);
        Tester.law(x, 0, "n(l<a)");
        rounded(test, x, 0, 1, 1);
        Tester.law(x, 0, "n(l<a+1)");
        rounded(test, x, 0);
    }

    @Says(of = 0, words = "r and d the other one's;")
    static void roundsAfterTheOther(Tester test) {
        NoEcho x = tongue("a|bb");
        x.say(5, 0, 1);
        Tester.law(x, 0, "n(s=0&!r=1);n(s=1&!r=0)");
        rounded(test, x, 0, 1, 1);
        Tester.law(x, 0, "n(r=1&l=1)");
        rounded(test, x, 0, 2, 1);
        Tester.law(x, 0, "n(r=0&l=1)");
        rounded(test, x, 0, 1, 2);
        x.colour(0, 2);
        x.colour(1, 3);
        Tester.law(x, 0, "n(!(s=0&c=2&d=3|s=1&c=3&d=2))");
        rounded(test, x, 0, 1, 1);
        Tester.law(x, 0, "n(d=3&l=1)");
        rounded(test, x, 0, 2, 1);
    }

    @Says(of = 0, words = "k as it is now, whatever comes):")
    static void roundsKeepK(Tester test) {
        NoEcho x = tongue("a|bb");
        Tester.law(x, 0, "n(k>0)");
        rounded(test, x, 0, 1, 1);
        Tester.law(x, 0, "n(k=1);n(l=a)");
        rounded(test, x, 0, 1, 2);
        x.say(0, 0, 1);
        rounded(test, x, 0);
        Tester.law(x, 0, "n(!k=1)");
        rounded(test, x, 0, 1, 1);
    }

    @Says(of = 0, words = "a row of an even number of LENGTHS, each of which may follow so:")
    static void roundsAreEven(Tester test) {
        NoEcho x = tongue("a+");
        // what comes round after one, three or five is gone round twice, if six have room for it
        Tester.law(x, 0, "n(!l=a)");
        rounded(test, x, 0, 1, 1);
        Tester.law(x, 0, "n(!l=a%3+1)");
        rounded(test, x, 0, 1, 2, 3, 1, 2, 3);
        Tester.law(x, 0, "n(!l=a%5+1)");
        rounded(test, x, 0);
        // by turns each other one may say one word only
        Tester.thing(x, 0, "a|bb|ccc");
        Tester.law(x, 0, "n(s=0&l>1);n(l=a|l=b)");
        rounded(test, x, 0);
        Tester.law(x, 0, "n(s=0&l>1);n(s=1&l=b)");
        rounded(test, x, 0, 1, 1, 1, 2);
    }

    @Says(of = 0, words = "of fewest; of like ones the least row. DRAWN:")
    static void roundsOfFewest(Tester test) {
        NoEcho x = tongue("a+");
        // 1 2 3 4 goes round, and so does 7 9
        Tester.law(x, 0, "n(!(l=a%4+1&a<5|a=7&l=9|a=9&l=7))");
        rounded(test, x, 0, 7, 9);
        Tester.law(x, 0, "n(!(l=a%4+1&a<5|a=9&l=7&s=1|a=7&l=9&s=0))");
        rounded(test, x, 0, 9, 7);
        Tester.law(x, 0, "n(!(l=a%4+1&a<5|a>4&a<11&l=[a-4]%6+5))");
        rounded(test, x, 0, 1, 2, 3, 4);
        // of four: 2 3 5 4, 3 5 4 2 and their like; the least begins with the least that speaker 0 may say
        Tester.law(x, 0, "n(!(a=2&l=3|a=3&l=5|a=5&l=4|a=4&l=2))");
        rounded(test, x, 0, 2, 3, 5, 4);
        Tester.law(x, 0, "n(!(a=2&l=3|a=3&l=5|a=5&l=4|a=4&l=2));n(s=0&l=2)");
        rounded(test, x, 0, 3, 5, 4, 2);
        Tester.law(x, 0, "n(l=a|l=b)");
        rounded(test, x, 0, 1, 2, 3, 4);
    }

    @Says(of = 17, words = "SILENCED: SPEAKER s with THINGS, q with others, what 0 what comes out, 1 the first THING, 2 its LENGTH")
    static void silencedWhat(Tester test) {
        NoEcho x = tongueOfAll("a9a9a6");
        test.due("what comes out", x.silenced(5, bits(11), 0, bits(0), 6, 0), 0);
        test.due("the first thing", x.silenced(5, bits(11), 0, bits(0), 6, 1), 11);
        test.due("its length", x.silenced(5, bits(11), 0, bits(0), 6, 2), 24);
        test.due("all things", x.silenced(0, 4095, 5, 4095, 6, 1), 0);
        test.due("the other one has nothing to say", x.silenced(5, bits(11), 0, 0, 6, 0), 1);
        test.due("one sentence is not enough for that", x.silenced(5, bits(11), 0, 0, 1, 0), 0);
    }

    @Says(of = 17, words = "(-2: it can say none);")
    static void silencedAtOnce(Tester test) {
        NoEcho x = tongue("a");
        for (int n = 1; n <= 6; n++) {
            silenced(test, x, new int[] {0, 0, 1, 1}, n, -1, -2, -2);
            silenced(test, x, new int[] {0, 0, 1, 0}, n, -1, -2, -2);
            silenced(test, x, new int[] {0, bits(5), 1, 1}, n, -1, -2, -2);
        }
        Tester.law(x, 0, "n(l=a)");
        x.say(3, 0, 1);
        silenced(test, x, ONE_EACH, 6, -1, -2, -2);
    }

    @Says(of = 17, words = "-3: no such ones, one SPEAKER twice.")
    static void silencedOfNoSuchOnes(Tester test) {
        NoEcho x = tongueOfAll("a");
        test.due("the highest ones", x.silenced(5, 4095, 4, 4095, 6, 0), 0);
        for (int s : new int[] {-1, 6, LOW, HIGH}) {
            test.due("speaker " + s, x.silenced(s, 1, 1, 1, 1, 0), -3);
            test.due("the other " + s, x.silenced(0, 1, s, 1, 1, 0), -3);
            test.due("both " + s, x.silenced(s, 1, s, 1, 1, 0), -3);
        }
        for (int s = 0; s <= 5; s++) {
            test.due("speaker " + s + " twice", x.silenced(s, 1, s, 2, 1, 0), -3);
        }
        for (int things : new int[] {4096, 4097, -1, LOW, HIGH}) {
            test.due("things " + things, x.silenced(0, things, 1, 1, 1, 0), -3);
            test.due("others " + things, x.silenced(0, 1, 1, things, 1, 0), -3);
        }
        for (int n : new int[] {0, 7, -1, LOW, HIGH}) {
            test.due("n " + n, x.silenced(0, 1, 1, 1, n, 0), -3);
        }
        for (int what : new int[] {-1, 3, LOW, HIGH}) {
            test.due("what " + what, x.silenced(0, 1, 1, 1, 1, what), -3);
        }
    }

    @Says(of = 18, words = "WAITED for a LENGTH (1 to 24) by SPEAKERS (bits, not empty): SENTENCES;")
    static void waitedForLengths(Tester test) {
        NoEcho x = tongue("a+");
        Tester.law(x, 0, "n(l=24&k<2);n(l=1&!s=5)");
        for (int l = 2; l <= 23; l++) {
            test.due("length " + l, x.waited(1, l), 0);
        }
        test.due("length 24", x.waited(1, 24), 2);
        test.due("length 1 by speaker 5", x.waited(32, 1), 0);
        test.due("length 1 by all", x.waited(63, 1), 0);
        test.due("length 1 by speaker 0", x.waited(1, 1), -2);
        for (int i = 0; i < 200; i++) {
            x.say(0, 0, 2);
        }
        test.due("at 200", x.waited(63, 24), 0);
    }

    @Says(of = 18, words = "-2: more than 5;")
    static void waitedMoreThan5(Tester test) {
        NoEcho x = tongue("a+");
        Tester.law(x, 0, "n(k<5&l=3)");
        test.due("five", x.waited(1, 3), 5);
        Tester.law(x, 0, "n(k<6&l=3)");
        test.due("six", x.waited(1, 3), -2);
        Tester.law(x, 0, "n(l=3)");
        test.due("never", x.waited(1, 3), -2);
        Tester.law(x, 0, "n(l>a+1)");
        test.due("five by steps", x.waited(1, 6), 5);
        test.due("six by steps", x.waited(1, 7), -2);
        test.due("no thing has it", new NoEcho().waited(1, 1), -2);
    }

    @Says(of = 18, words = "NONE: no such ones.")
    static void waitedOfNoSuchOnes(Tester test) {
        NoEcho x = tongue("a+");
        test.due("all speakers", x.waited(63, 24), 0);
        for (int speakers : new int[] {0, 64, 65, 128, -1, LOW, HIGH}) {
            test.due("speakers " + speakers, x.waited(speakers, 1), NONE);
        }
        for (int l : new int[] {0, 25, -1, 32, 33, LOW, HIGH}) {
            test.due("length " + l, x.waited(1, l), NONE);
        }
        test.due("ahead of -2", new NoEcho().waited(64, 1), NONE);
    }

    @Says(of = 19, words = "A ROUND of a THING, what NONE how many LENGTHS, else the one at place what;")
    static void roundWhat(Tester test) {
        NoEcho x = new NoEcho();
        Tester.thing(x, 11, "a6|a7|a8|a9|a9a9|a9a9a6");
        Tester.law(x, 0, "n(!(a=6&l=24|a=24&l=7|a=7&l=18|a=18&l=8|a=8&l=9|a=9&l=6))");
        test.due("how many", x.round(11, NONE), 6);
        rounded(test, x, 11, 6, 24, 7, 18, 8, 9);
        rounded(test, x, 0);
    }

    @Says(of = 19, words = "-2: there is none;")
    static void noRound(Tester test) {
        NoEcho x = tongue("a");
        rounded(test, x, 0, 1, 1);
        rounded(test, x, 1);
        Tester.law(x, 0, "n(l=a)");
        rounded(test, x, 0);
        Tester.law(x, 0, "n(0=0)");
        rounded(test, x, 0);
    }

    @Says(of = 19, words = "-3: no such ones, no such place.")
    static void roundOfNoSuchOnes(Tester test) {
        NoEcho x = tongueOfAll("a|bb|ccc");
        test.due("thing 11", x.round(11, NONE), 2);
        for (int t : new int[] {-1, 12, LOW, HIGH}) {
            test.due("thing " + t, x.round(t, NONE), -3);
            test.due("a place of thing " + t, x.round(t, 0), -3);
        }
        for (int what : new int[] {-2, 2, 3, 5, 6, LOW, HIGH}) {
            test.due("place " + what + " of two", x.round(0, what), -3);
        }
        Tester.law(x, 0, "n(l=a|l=b)");
        test.due("place 5 of six", x.round(0, 5), 3);
        for (int what : new int[] {-2, 6, 7, LOW, HIGH}) {
            test.due("place " + what + " of six", x.round(0, what), -3);
        }
        Tester.law(x, 0, "n(0=0)");
        for (int what : new int[] {-2, 6, 7, LOW, HIGH}) {
            test.due("place " + what + " is in no round", x.round(0, what), -3);
        }
    }
}
