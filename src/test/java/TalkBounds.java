/** The sentences on what is said, paid and judged: terms and promises 7 to 12. */
final class TalkBounds extends Bounds {
    private TalkBounds() {
    }

    @Says(of = 0, words = "THE TALK: SENTENCES that were said, 200 at most (none at first).")
    static void theTalkHas200AtMost(Tester test) {
        NoEcho x = tongue("a|bb");
        test.due("none at first", x.count(0), 0);
        test.due("no words at first", x.count(1), 0);
        for (int i = 1; i <= 200; i++) {
            test.due("sentence " + i, x.say(i % 6, 0, 1 + i % 2), i);
        }
        test.due("one too many", x.say(0, 0, 1), NONE);
        test.due("none is drawn", x.draw(20), 0);
        test.due("200 stay", x.count(0), 200);
        test.due("words", x.count(1), 300);
        test.due("the last one stays", x.said(199, 0), 200 % 6);
        test.due("none behind it", x.said(200, 0), NONE);
        test.due("the first one stays", x.said(0, 2), 2);
    }

    @Says(of = 0, words = "All below goes on from it as it is")
    static void allGoesOnFromTheTalk(Tester test) {
        NoEcho x = tongue("a|bb|ccc|dddd");
        x.colour(0, 2);
        x.colour(1, 3);
        x.colour(3, 1);
        x.say(1, 0, 4);
        x.say(2, 0, 3);
        x.say(3, 0, 2);
        // one sentence may be said now, and none behind it
        for (int w = 0; w < 2; w++) {
            Tester.law(x, w, "n(!(a=2&b=3&r=3&d=1&k=3))");
            test.due("may", x.may(w, 0, 0, 1), 1);
            test.due("ways", x.ways(w, 0, 0), bits(1, 2, 3, 4));
            test.due("judged", Tester.judged(x, w, 2, 0, 0, 1, 1, 0, 1), 1);
        }
        for (int laws = 1; laws <= 3; laws++) {
            test.due("held", Tester.held(x, laws, 1, NONE, 0, 0), 1);
            test.due("held at most", Tester.held(x, laws, 2, 20, 0, 0, 1, 0), 1);
        }
        test.due("coded", Tester.coded(x, 2, 1, NONE, 0, 0, 1), 1);
        test.due("coded at most", Tester.coded(x, 2, 2, 20, 0, 0, 1, 1, 0, 1), 1);
        test.due("heard", Tester.heard(x, 1, NONE, 0, 1), 1);
        test.due("heard two", Tester.heard(x, 2, NONE, 0, 1, 1, 1), 0);
        test.due("any talk of one", x.anyTalk(1, 1, NONE), 1);
        test.due("any talk of two", x.anyTalk(1, 2, NONE), 0);
        test.due("silenced", x.silenced(0, 1, 1, 1, 1, 0), 0);
        test.due("the other one is", x.silenced(0, 1, 1, 1, 2, 0), 1);
        test.due("waited", x.waited(63, 4), 0);
        // a second one may be said behind one word by speaker 0
        Tester.law(x, 0, "n(k=3&!l=1);n(k=4&!(a=1&b=2&r=0&d=2));n(k=5)");
        test.due("judged two", Tester.judged(x, 0, 3, 0, 0, 1, 1, 0, 3, 0, 0, 1), 2);
        held(test, x, 1, new int[] {0, 0, 1, 0}, 2, 1, 1);
        coded(test, x, 3, new int[] {0, 0, 1, 1, 0, 2}, 3, 1, 2);
        test.due("heard two of them", Tester.heard(x, 2, NONE, 0, 1, 1, 4), 1);
        test.due("any talk of these two", x.anyTalk(1, 2, NONE), 1);
        test.due("silenced behind two", x.silenced(0, 1, 1, 1, 3, 0), -1);
        test.due("nobody behind two", x.silenced(0, 1, 1, 1, 2, 0), 0);
        test.due("waited for one", x.waited(bits(0), 4), 1);
        test.due("not behind speaker 1", x.waited(bits(1), 4), -2);
    }

    @Says(of = 0, words = "(nothing is said by asking).")
    static void askingSaysNothing(Tester test) {
        NoEcho x = tongue("a|bb|ccc");
        Tester.law(x, 0, "n(l=a)");
        Tester.law(x, 1, "n(l=a)");
        x.say(3, 0, 1);
        for (int round = 0; round < 2; round++) {
            test.due("may", x.may(0, 0, 0, 1), 0);
            test.due("ways", x.ways(1, 0, 0), bits(2, 3));
            test.due("judged", Tester.judged(x, 0, 2, 0, 0, 2, 0, 0, 1), 2);
            test.due("judged an echo", Tester.judged(x, 1, 1, 0, 0, 1), 0);
            test.due("held", Tester.held(x, 1, 2, 0, 0, 0, 1, 0), 2);
            test.due("coded", Tester.coded(x, 2, 1, 0, 0, 0, 1), 3);
            test.due("heard", Tester.heard(x, 1, NONE, 0, 1), 0);
            test.due("any talk", x.anyTalk(1, 5, NONE), 1);
            test.due("silenced", x.silenced(0, 1, 1, 1, 1, 2), 2);
            test.due("waited", x.waited(63, 1), 1);
            test.due("round", x.round(0, 0), 1);
            test.due("sentences", x.count(0), 1);
            test.due("words", x.count(1), 1);
            test.due("the last length", x.count(7), 1);
            test.due("X", x.count(5), 1);
        }
    }

    @Says(of = 0, words = "JUDGED is a row of SENTENCES as if they were said now, by a LAW:")
    static void judgedAsIfSaidNow(Tester test) {
        NoEcho x = tongue("a|bb|ccc");
        say(x, 1, 0, 3);
        say(x, 4, 0, 2);
        Tester.law(x, 1, "n(!(k=2&a=2&b=3&r=4|k=3&a=1&b=2&r=0|k=4&a=3&b=1&r=5))");
        test.due("a, b, r and k go on", Tester.judged(x, 1, 4, 0, 0, 1, 5, 0, 3, 2, 0, 2, 1, 0, 1), 3);
        x.colour(4, 1);
        x.colour(5, 2);
        Tester.law(x, 1, "n(!(k=2&d=1&c=0|k=3&d=0&c=2|k=4&d=2&c=1))");
        test.due("c and d, too", Tester.judged(x, 1, 4, 0, 0, 1, 5, 0, 1, 4, 0, 1, 0, 0, 1), 3);
        Tester.law(x, 0, "n(0=0)");
        test.due("by law 0", Tester.judged(x, 0, 1, 0, 0, 1), 0);
    }

    @Says(of = 0, words = "the first one that may not be said (or whose LENGTH its THING does not have).")
    static void theFirstThatMayNotBeSaid(Tester test) {
        NoEcho x = tongue("a|bb", "ccc");
        Tester.law(x, 0, "n(l=a)");
        test.due("two that may not", Tester.judged(x, 0, 4, 0, 0, 1, 0, 0, 2, 0, 0, 2, 0, 0, 2), 2);
        test.due("a length of another thing", Tester.judged(x, 0, 3, 0, 0, 1, 0, 0, 3, 0, 0, 3), 1);
        test.due("0 words", Tester.judged(x, 0, 1, 0, 0, 0), 0);
        test.due("25 words", Tester.judged(x, 0, 2, 0, 1, 3, 0, 0, 25), 1);
        test.due("33 words", Tester.judged(x, 0, 2, 0, 1, 3, 0, 0, 33), 1);
        test.due("255 words", Tester.judged(x, 0, 2, 0, 1, 3, 0, 0, 255), 1);
        test.due("a thing without lengths", Tester.judged(x, 0, 2, 0, 0, 1, 0, 11, 1), 1);
    }

    @Says(of = 7, words = "Whether a SENTENCE may be said now by LAW w (1, 0);")
    static void mayByEachLaw(Tester test) {
        NoEcho x = tongue("a|bb");
        Tester.law(x, 0, "n(l=a)");
        Tester.law(x, 1, "n(l=b)");
        say(x, 0, 0, 1, 2);
        test.due("law 0 lets", x.may(0, 0, 0, 1), 1);
        test.due("law 0 does not", x.may(0, 0, 0, 2), 0);
        test.due("law 1 lets", x.may(1, 0, 0, 2), 1);
        test.due("law 1 does not", x.may(1, 0, 0, 1), 0);
        Tester.law(x, 0, "n(0=1)");
        fill(x, 200);
        test.due("asked at 200", x.may(0, 0, 0, 2), 1);
    }

    @Says(of = 7, words = "-2: its THING does not have that LENGTH (none has another one than 1 to 24);")
    static void mayOfALengthThatIsNotThere(Tester test) {
        NoEcho x = tongue("a+", "bb");
        Tester.law(x, 0, "n(0=0)");
        test.due("1", x.may(0, 0, 0, 1), 0);
        test.due("24", x.may(0, 0, 0, 24), 0);
        for (int l : new int[] {0, -1, -8, 25, 26, 31, 32, 33, 56, 64, 65, LOW, LOW + 1, HIGH}) {
            test.due("length " + l, x.may(0, 0, 0, l), -2);
        }
        test.due("one below", x.may(0, 0, 1, 1), -2);
        test.due("one above", x.may(0, 0, 1, 3), -2);
        test.due("a thing without lengths", x.may(0, 0, 2, 1), -2);
    }

    @Says(of = 7, words = "NONE: no such ones.")
    static void mayOfNoSuchOnes(Tester test) {
        NoEcho x = tongueOfAll("a");
        test.due("the highest ones", x.may(1, 5, 11, 1), 1);
        int[][] wrong = {{-1, 0, 0}, {2, 0, 0}, {LOW, 0, 0}, {HIGH, 0, 0}, {0, -1, 0}, {0, 6, 0}, {0, LOW, 0},
            {0, HIGH, 0}, {0, 0, -1}, {0, 0, 12}, {0, 0, LOW}, {0, 0, HIGH}};
        for (int[] w : wrong) {
            test.due("may " + w[0] + " " + w[1] + " " + w[2], x.may(w[0], w[1], w[2], 1), NONE);
            test.due("ahead of -2", x.may(w[0], w[1], w[2], 2), NONE);
        }
    }

    @Says(of = 8, words = "LENGTHS in which a SPEAKER may say a THING now by LAW w, as bits;")
    static void waysAsBits(Tester test) {
        NoEcho x = tongue("a+", "a|bb|ccc");
        test.due("all", x.ways(0, 0, 0), ALL);
        test.due("a thing without lengths", x.ways(0, 0, 2), 0);
        Tester.law(x, 0, "n(l<24&s=5)");
        Tester.law(x, 1, "n(l>1&t=0)");
        test.due("24 alone", x.ways(0, 5, 0), bits(24));
        test.due("not for others", x.ways(0, 4, 0), ALL);
        test.due("1 alone", x.ways(1, 5, 0), bits(1));
        test.due("of a thing's own lengths", x.ways(1, 5, 1), bits(1, 2, 3));
        test.due("none of them", x.ways(0, 5, 1), 0);
        Tester.law(x, 0, "n(l=a)");
        fill(x, 1);
        test.due("now", x.ways(0, 0, 1), bits(2, 3));
    }

    @Says(of = 8, words = "NONE: no such ones.")
    static void waysOfNoSuchOnes(Tester test) {
        NoEcho x = tongueOfAll("a");
        test.due("the highest ones", x.ways(1, 5, 11), bits(1));
        int[][] wrong = {{-1, 0, 0}, {2, 0, 0}, {LOW, 0, 0}, {HIGH, 0, 0}, {0, -1, 0}, {0, 6, 0}, {0, LOW, 0},
            {0, HIGH, 0}, {0, 0, -1}, {0, 0, 12}, {0, 0, LOW}, {0, 0, HIGH}};
        for (int[] w : wrong) {
            test.due("ways " + w[0] + " " + w[1] + " " + w[2], x.ways(w[0], w[1], w[2]), NONE);
        }
    }

    @Says(of = 9, words = "A SENTENCE is said: how many there are;")
    static void sayTellsHowMany(Tester test) {
        NoEcho x = tongueOfAll("a+");
        test.due("the first one", x.say(5, 11, 24), 1);
        test.due("the second one", x.say(0, 0, 1), 2);
        int[] due = {5, 11, 24, 0, 0, 0, 1, 0};
        for (int i = 0; i < 8; i++) {
            test.due("said " + i, x.said(i / 4, i % 4), due[i]);
        }
        test.due("sentences", x.count(0), 2);
        test.due("words", x.count(1), 25);
    }

    @Says(of = 9, words = "-2: its THING does not have that LENGTH;")
    static void sayALengthThatIsNotThere(Tester test) {
        NoEcho x = tongue("a+", "bb");
        for (int l : new int[] {0, -1, 25, 32, 33, LOW, HIGH}) {
            test.due("length " + l, x.say(0, 0, l), -2);
        }
        test.due("one below", x.say(0, 1, 1), -2);
        test.due("one above", x.say(0, 1, 3), -2);
        test.due("a thing without lengths", x.say(0, 11, 1), -2);
        Tester.law(x, 0, "n(0=0)");
        test.due("ahead of -3", x.say(0, 1, 3), -2);
        test.due("nothing was said", x.count(0), 0);
        test.due("no words", x.count(1), 0);
    }

    @Says(of = 9, words = "-3: LAW 0 does not let it;")
    static void sayWhatLaw0DoesNotLet(Tester test) {
        NoEcho x = tongue("a|bb");
        Tester.law(x, 0, "n(l=a)");
        Tester.law(x, 1, "n(0=0)");
        test.due("law 1 is not asked", x.say(0, 0, 1), 1);
        test.due("an echo", x.say(1, 0, 1), -3);
        test.due("nothing was said", x.count(0), 1);
        test.due("nor by speaker 1", x.count(21), 0);
        test.due("no echo", x.say(1, 0, 2), 2);
    }

    @Says(of = 9, words = "NONE: no such ones,")
    static void sayNoSuchOnes(Tester test) {
        NoEcho x = tongueOfAll("a");
        int[][] wrong = {{-1, 0}, {6, 0}, {LOW, 0}, {HIGH, 0}, {0, -1}, {0, 12}, {0, LOW}, {0, HIGH}};
        for (int[] w : wrong) {
            test.due("say " + w[0] + " " + w[1], x.say(w[0], w[1], 1), NONE);
            test.due("ahead of -2", x.say(w[0], w[1], 2), NONE);
        }
        test.due("nothing was said", x.count(0), 0);
        test.due("the highest ones", x.say(5, 11, 1), 1);
    }

    @Says(of = 9, words = "200 are there.")
    static void sayAt200(Tester test) {
        NoEcho x = tongue("a");
        fill(x, 198);
        test.due("the 199th", x.say(1, 0, 1), 199);
        test.due("the 200th", x.say(2, 0, 1), 200);
        test.due("the 201st", x.say(3, 0, 1), NONE);
        test.due("ahead of -2", x.say(3, 0, 2), NONE);
        Tester.law(x, 0, "n(0=0)");
        test.due("ahead of -3", x.say(3, 0, 1), NONE);
        test.due("200 stay", x.count(0), 200);
        test.due("words stay", x.count(1), 200);
        test.due("the last one stays", x.said(199, 0), 2);
    }

    @Says(of = 10, words = "Of a SENTENCE of THE TALK, what 0 SPEAKER, 1 THING, 2 LENGTH,")
    static void saidFromFirstToLast(Tester test) {
        NoEcho x = tongueOfAll("a+");
        for (int i = 0; i < 200; i++) {
            x.say(i % 6, i % 12, 1 + i % 24);
        }
        for (int i = 0; i < 200; i++) {
            test.due("speaker " + i, x.said(i, 0), i % 6);
            test.due("thing " + i, x.said(i, 1), i % 12);
            test.due("length " + i, x.said(i, 2), 1 + i % 24);
        }
        Tester.thing(x, 0, "bb");
        test.due("as it was said", x.said(0, 2), 1);
    }

    @Says(of = 10, words = "3 what it is paid (as it was said, by LAW 0 as it is now, COLOURS as they are now);")
    static void paidAsItWasSaid(Tester test) {
        NoEcho x = tongue("a+");
        say(x, 1, 0, 2);
        say(x, 3, 0, 5);
        say(x, 4, 0, 7);
        test.due("no law", x.said(2, 3), 0);
        Tester.law(x, 0, "p100*a+10*b+k(0=0)");
        test.due("the first: nothing was ahead", x.said(0, 3), 0);
        test.due("the second: one was ahead", x.said(1, 3), 201);
        test.due("the third", x.said(2, 3), 522);
        Tester.law(x, 0, "p100*l+10*s+t(0=0)");
        test.due("l, s and t", x.said(1, 3), 530);
        Tester.law(x, 0, "p100*r+10*d+c(0=0)");
        x.colour(0, 3);
        test.due("r and d of none are 0", x.said(0, 3), 0);
        test.due("r", x.said(2, 3), 300);
        x.colour(3, 2);
        x.colour(4, 1);
        test.due("colours as they are now", x.said(2, 3), 321);
        Tester.law(x, 0, "n(0=0);p8(0=0)");
        test.due("what may not be said now is paid", x.said(0, 3), 8);
        Tester.law(x, 0, "p999*l(0=0)");
        test.due("the bound", x.said(2, 3), 999);
    }

    @Says(of = 10, words = "NONE for others.")
    static void saidOfOthers(Tester test) {
        NoEcho x = tongue("a");
        for (int what = 0; what <= 3; what++) {
            test.due("of an empty talk", x.said(0, what), NONE);
        }
        say(x, 0, 0, 1, 1);
        for (int i : new int[] {-1, 2, 200, LOW, HIGH}) {
            for (int what = 0; what <= 3; what++) {
                test.due("place " + i, x.said(i, what), NONE);
            }
        }
        for (int what : new int[] {-1, 4, LOW, HIGH}) {
            test.due("what " + what, x.said(1, what), NONE);
        }
        fill(x, 200);
        test.due("place 199", x.said(199, 2), 1);
        test.due("place 200", x.said(200, 2), NONE);
    }

    @Says(of = 11, words = "What a SPEAKER is paid for all its SENTENCES;")
    static void paidForAll(Tester test) {
        NoEcho x = tongue("a+");
        Tester.law(x, 0, "p900*l(l<3);p0-l(l=3);p5(0=0)");
        say(x, 0, 0, 1, 2, 3, 4);
        say(x, 5, 0, 4);
        test.due("each in its bounds", x.paid(0), 900 + 999 + 5);
        test.due("of speaker 5", x.paid(5), 5);
        test.due("who said nothing", x.paid(1), 0);
        Tester.law(x, 0, "p999(0=0)");
        for (int i = x.count(0); i < 200; i++) {
            x.say(2, 0, 1);
        }
        test.due("the most", x.paid(2), 195 * 999);
    }

    @Says(of = 11, words = "NONE: no such SPEAKER.")
    static void paidOfNoSuchSpeaker(Tester test) {
        NoEcho x = tongue("a");
        Tester.law(x, 0, "p1(0=0)");
        for (int s = 0; s <= 5; s++) {
            x.say(s, 0, 1);
            test.due("speaker " + s, x.paid(s), 1);
        }
        for (int s : new int[] {-1, 6, LOW, HIGH}) {
            test.due("speaker " + s, x.paid(s), NONE);
        }
    }

    @Says(of = 12, words = "JUDGED by LAW w by the first 3 n bytes of the tape (SPEAKER, THING, LENGTH; n 1 to 60;")
    static void judgedFrom1To60(Tester test) {
        NoEcho x = tongue("a|bb");
        Tester.law(x, 0, "n(l=a)");
        Tester.law(x, 1, "n(k=59)");
        int[] told = new int[220];
        for (int i = 0; i < 60; i++) {
            told[3 * i] = i % 6;
            told[3 * i + 2] = 1 + i % 2;
        }
        // behind 3 n bytes nothing is looked at
        told[180] = 9;
        test.due("one", Tester.judged(x, 0, 1, 5, 0, 1, 9, 9, 9), 1);
        test.due("59 by law 1", Tester.judged(x, 1, 59, told), 59);
        test.due("60 by law 0", Tester.judged(x, 0, 60, told), 60);
        test.due("60 by law 1", Tester.judged(x, 1, 60, told), 59);
        Tester.feed(x, told);
        test.due("61", x.judged(0, 61), NONE);
        test.due("73", x.judged(0, 73), NONE);
        test.due("0", x.judged(0, 0), NONE);
        test.due("the tape stays", x.count(4), 220);
        test.due("then 60", x.judged(0, 60), 60);
    }

    @Says(of = 12, words = "empty then):")
    static void judgedEmptiesTheTape(Tester test) {
        NoEcho x = tongue("a");
        Tester.feed(x, new int[220]);
        x.judged(0, 1);
        test.due("not so", x.count(4), 0);
        Tester.judged(x, 0, 1, 0, 0, 1);
        test.due("all right", x.count(4), 0);
        Tester.judged(x, 0, 1, 6, 0, 1);
        test.due("no such speaker", x.count(4), 0);
    }

    @Says(of = 12, words = "the place of the first one that is not so;")
    static void judgedTellsThePlace(Tester test) {
        NoEcho x = tongue("a|bb");
        for (int place = 0; place < 60; place++) {
            int[] told = new int[180];
            for (int i = 0; i < 60; i++) {
                told[3 * i + 2] = i == place ? 3 : 1;
            }
            test.due("place", Tester.judged(x, 0, 60, told), place);
        }
    }

    @Says(of = 12, words = "n: all are right;")
    static void judgedAllRight(Tester test) {
        NoEcho x = tongue("a");
        int[] told = new int[180];
        for (int i = 0; i < 60; i++) {
            told[3 * i + 2] = 1;
        }
        for (int n = 1; n <= 60; n++) {
            test.due("all of " + n, Tester.judged(x, n % 2, n, told), n);
        }
        fill(x, 200);
        test.due("at 200", Tester.judged(x, 0, 60, told), 60);
    }

    @Says(of = 12, words = "-2: no such SPEAKER, THING (then that place is not told);")
    static void judgedOfNoSuchSpeaker(Tester test) {
        NoEcho x = tongueOfAll("a");
        test.due("the highest ones", Tester.judged(x, 0, 1, 5, 11, 1), 1);
        test.due("speaker 6", Tester.judged(x, 0, 2, 0, 0, 1, 6, 0, 1), -2);
        test.due("speaker 255", Tester.judged(x, 0, 2, 255, 0, 1, 0, 0, 1), -2);
        test.due("thing 12", Tester.judged(x, 0, 2, 0, 0, 1, 0, 12, 1), -2);
        test.due("thing 255", Tester.judged(x, 0, 1, 0, 255, 1), -2);
        test.due("behind one that is not so", Tester.judged(x, 0, 2, 0, 0, 2, 6, 0, 1), -2);
        test.due("behind n", Tester.judged(x, 0, 1, 0, 0, 2, 6, 0, 1), 0);
    }

    @Says(of = 12, words = "NONE: no such ones,")
    static void judgedOfNoSuchOnes(Tester test) {
        NoEcho x = tongue("a");
        int[] told = new int[220];
        told[2] = 1;
        Tester.feed(x, told);
        for (int w : new int[] {-1, 2, 3, LOW, HIGH}) {
            test.due("law " + w, x.judged(w, 1), NONE);
        }
        for (int n : new int[] {0, -1, 61, LOW, HIGH, 0x55555556, 0x2AAAAAAB}) {
            test.due("n " + n, x.judged(0, n), NONE);
        }
        test.due("the tape stays", x.count(4), 220);
        test.due("then it is read", x.judged(0, 1), 1);
    }

    @Says(of = 12, words = "it has not so many (the tape stays).")
    static void judgedOfAShortTape(Tester test) {
        NoEcho x = tongue("a");
        test.due("an empty tape", x.judged(0, 1), NONE);
        Tester.feed(x, 0, 0, 1, 0, 0, 1, 0, 0, 1, 0, 0, 1, 0, 0, 1, 0, 0, 1, 0, 0);
        test.due("21 bytes of 20", x.judged(0, 7), NONE);
        test.due("the tape stays", x.count(4), 20);
        test.due("18 bytes of 20", x.judged(0, 6), 6);
    }
}
