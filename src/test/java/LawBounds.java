/** The sentences on laws: terms and promise 6. */
final class LawBounds extends Bounds {
    private LawBounds() {
    }

    @Says(of = 0, words = "A LAW (two of them, 0 and 1):")
    static void lawsAre0And1(Tester test) {
        NoEcho x = tongue("a|bb");
        test.due("law 0", Tester.law(x, 0, "n(l=1)"), 1);
        test.due("law 1", Tester.law(x, 1, "n(l=2);n(l=3)"), 2);
        test.due("ways by 0", x.ways(0, 0, 0), bits(2));
        test.due("ways by 1", x.ways(1, 0, 0), bits(1));
        test.due("clauses of 0", x.count(2), 1);
        test.due("clauses of 1", x.count(3), 2);
        Tester.feedText(x, "n(l=1)");
        for (int w : new int[] {-1, 2, 3, LOW, HIGH}) {
            test.due("law " + w, x.law(w, 6), NONE);
            test.due("may by law " + w, x.may(w, 0, 0, 1), NONE);
            test.due("ways by law " + w, x.ways(w, 0, 0), NONE);
        }
    }

    @Says(of = 0, words = "a TEXT of at most 200 bytes,")
    static void lawOf200Bytes(Tester test) {
        NoEcho x = tongue("a5");
        x.say(0, 0, 5);
        String most = "p10" + "+1".repeat(96) + "(0=0)";
        test.due("bytes", most.length(), 200);
        test.due("sum of 200 bytes", Tester.law(x, 0, most), 1);
        test.due("all of it is reckoned", x.said(0, 3), 106);
        String parts = "n(" + "0=1|".repeat(48) + "[0]=0)";
        test.due("bytes of parts", parts.length(), 200);
        test.due("parts of 200 bytes", Tester.law(x, 0, parts), 1);
        test.due("the last part holds", x.may(0, 0, 0, 5), 0);
        String pieces = "n(" + "0=0&".repeat(48) + "[0]=1)";
        test.due("pieces of 200 bytes", Tester.law(x, 0, pieces), 1);
        test.due("the last piece does not hold", x.may(0, 0, 0, 5), 1);
        Tester.feedText(x, "n(l=1)" + ";n(l=1)".repeat(12) + ";n(l=1" + "+1".repeat(52) + ")");
        test.due("201 bytes", x.law(0, 201), NONE);
        test.due("the tape stays", x.count(4), 220);
        test.due("the law stays", x.may(0, 0, 0, 5), 1);
        test.due("clauses stay", x.count(2), 1);
        test.due("200 bytes of it", x.law(0, 200), -1200);
    }

    @Says(of = 0, words = "no blanks (none at first):")
    static void noBlanksAndNoLawAtFirst(Tester test) {
        lawFault(test, " n(l=a)", -1000);
        lawFault(test, "n (l=a)", -1001);
        lawFault(test, "n( l=a)", -1002);
        lawFault(test, "n(l =a)", -1003);
        lawFault(test, "n(l= a)", -1004);
        lawFault(test, "n(l=a )", -1005);
        lawFault(test, "n(l=a) ", -1006);
        lawFault(test, "n(1 2=l)", -1003);
        lawFault(test, "p 1(l=a)", -1001);
        NoEcho x = tongue("a+");
        test.due("clauses of law 0 at first", x.count(2), 0);
        test.due("clauses of law 1 at first", x.count(3), 0);
        test.due("all may be said by law 0", x.ways(0, 5, 0), ALL);
        test.due("all may be said by law 1", x.ways(1, 5, 0), ALL);
    }

    @Says(of = 0, words = "CLAUSES (14 at most) with a ; (59) between two:")
    static void clausesUpTo14(Tester test) {
        for (int n = 1; n <= 14; n++) {
            lawRead(test, clauses(n), n);
        }
        lawFault(test, clauses(15), -4098);
        lawRead(test, "n(l=a)" + (char) 59 + "n(l=b)", 2);
        lawFault(test, "n(l=a)" + (char) 58 + "n(l=b)", -1006);
        lawFault(test, "n(l=a)" + (char) 60 + "n(l=b)", -1006);
        lawFault(test, ";n(l=a)", -1000);
        lawFault(test, "n(l=a);", -1007);
        lawFault(test, "n(l=a);;n(l=a)", -1007);
        lawFault(test, "n(l=a)n(l=a)", -1006);
    }

    @Says(of = 0, words = "n and (C): a SENTENCE may not be said (any n will do);")
    static void anyBanWillDo(Tester test) {
        NoEcho x = tongue("a|bb|ccc");
        Tester.law(x, 0, "n(0=1)");
        test.due("none holds", x.ways(0, 0, 0), bits(1, 2, 3));
        Tester.law(x, 0, "n(l=2)" + ";n(0=1)".repeat(13));
        test.due("the first of 14", x.ways(0, 0, 0), bits(1, 3));
        Tester.law(x, 0, "n(0=1);".repeat(13) + "n(l=2)");
        test.due("the last of 14", x.ways(0, 0, 0), bits(1, 3));
        Tester.law(x, 0, "n(l=1);p5(0=0);n(l=3)");
        test.due("two, with a price between", x.ways(0, 0, 0), bits(2));
        Tester.law(x, 0, "p5(0=0)");
        test.due("a price bans nothing", x.ways(0, 0, 0), bits(1, 2, 3));
        lawFault(test, "n5(l=1)", -1001);
        lawFault(test, "n", -1001);
        lawFault(test, "n()", -1002);
        lawFault(test, "nl=1", -1001);
    }

    @Says(of = 0, words = "p, E and (C): what one is paid for it (0 to 999; of LAW 0 alone:")
    static void paidByLaw0Alone(Tester test) {
        price(test, "0", 0);
        price(test, "1", 1);
        price(test, "999", 999);
        NoEcho x = tongue("a");
        x.say(0, 0, 1);
        Tester.law(x, 1, "p5(0=0)");
        test.due("law 1 pays nothing", x.said(0, 3), 0);
        test.due("nor in all", x.paid(0), 0);
        Tester.law(x, 0, "p3(0=0)");
        test.due("law 0 pays", x.paid(0), 3);
        lawFault(test, "p", -1001);
        lawFault(test, "p(l=1)", -1001);
        lawFault(test, "p5", -1002);
        lawFault(test, "p5()", -1003);
        lawFault(test, "P5(l=1)", -1000);
    }

    @Says(of = 0, words = "the E of the first CLAUSE whose C holds;")
    static void theFirstPriceThatHolds(Tester test) {
        NoEcho x = tongue("a|bb|ccc");
        say(x, 0, 0, 1, 2, 3);
        Tester.law(x, 0, "p1(l=1);p2(l<3);p3(l<4)");
        test.due("the first", x.said(0, 3), 1);
        test.due("the second", x.said(1, 3), 2);
        test.due("the third", x.said(2, 3), 3);
        Tester.law(x, 0, "n(0=0);p7(l=2)");
        test.due("an n whose C holds is no price", x.said(1, 3), 7);
        Tester.law(x, 0, "p1(0=1);".repeat(13) + "p14(l=3)");
        test.due("the last of 14", x.said(2, 3), 14);
        Tester.law(x, 0, "p0-9(0=0);p5(0=0)");
        test.due("not the next one if it is below 0", x.said(0, 3), 0);
    }

    @Says(of = 0, words = "beyond its bounds the bound; none: 0).")
    static void payStaysInItsBounds(Tester test) {
        price(test, "998", 998);
        price(test, "999", 999);
        price(test, "1000", 999);
        price(test, "99999", 999);
        price(test, "0", 0);
        price(test, "0-1", 0);
        price(test, "0-99999", 0);
        price(test, "65536*32768", 0);
        price(test, "65536*32767", 999);
        // the bound is for what comes out alone
        price(test, "999*9-8000", 991);
        price(test, "[0-5]+7", 2);
        NoEcho x = tongue("a");
        x.say(0, 0, 1);
        Tester.law(x, 0, "p5(l=2);p6(0=1)");
        test.due("none holds", x.said(0, 3), 0);
        Tester.law(x, 0, "n(0=1)");
        test.due("no price there", x.said(0, 3), 0);
    }

    @Says(of = 0, words = "C: PARTS with a | between two, one of which must hold;")
    static void partsOfACondition(Tester test) {
        condition(test, "1=1", true);
        condition(test, "1=2", false);
        condition(test, "1=1|1=2", true);
        condition(test, "1=2|1=1", true);
        condition(test, "1=2|1=3", false);
        condition(test, "1=2|1=3|1=1", true);
        lawFault(test, "n(|l=1)", -1002);
        lawFault(test, "n(l=1|)", -1006);
        lawFault(test, "n(l=1||l=2)", -1006);
    }

    @Says(of = 0, words = "a PART: PIECES with an & between two, all of which must;")
    static void piecesOfAPart(Tester test) {
        condition(test, "1=1&1=1", true);
        condition(test, "1=1&1=2", false);
        condition(test, "1=2&1=1", false);
        condition(test, "1=1&1=1&1=2", false);
        // an & binds closer than a |, on both sides
        condition(test, "1=1|1=1&1=2", true);
        condition(test, "1=2&1=1|1=1", true);
        condition(test, "1=2&(1=1|1=1)", false);
        lawFault(test, "n(&l=1)", -1002);
        lawFault(test, "n(l=1&)", -1006);
        lawFault(test, "n(l=1&&l=2)", -1006);
        lawFault(test, "n(l=1|&l=2)", -1006);
    }

    @Says(of = 0, words = "a PIECE: !PIECE, (C), or E, one of < > =, and E.")
    static void piecesOfAllKinds(Tester test) {
        condition(test, "!1=2", true);
        condition(test, "!1=1", false);
        condition(test, "!!1=1", true);
        condition(test, "(1=1)", true);
        condition(test, "!(1=1|1=1)", false);
        condition(test, "!1=2&1=2", false);
        condition(test, "!(1=2&1=2)", true);
        condition(test, "1<2", true);
        condition(test, "2<2", false);
        condition(test, "3<2", false);
        condition(test, "1>2", false);
        condition(test, "2>2", false);
        condition(test, "3>2", true);
        condition(test, "2=2", true);
        lawFault(test, "n(!)", -1003);
        lawFault(test, "n(l)", -1003);
        lawFault(test, "n(l=)", -1004);
        lawFault(test, "n(=1)", -1002);
        lawFault(test, "n(l==1)", -1004);
        lawFault(test, "n(l<=1)", -1004);
        lawFault(test, "n(l=1=1)", -1005);
        lawFault(test, "n((l=1)=1)", -1007);
        lawFault(test, "n((l)=1)", -1004);
        lawFault(test, "n(l?1)", -1003);
    }

    @Says(of = 0, words = "E: TERMS with + or - between two; a TERM: FACTORS with one of * / % between two; from the left on;")
    static void reckonedFromTheLeft(Tester test) {
        price(test, "1+2*3", 7);
        price(test, "2*3+1", 7);
        price(test, "9-3-2", 4);
        price(test, "9-3+2", 8);
        price(test, "100/7/2", 7);
        price(test, "100/7*2", 28);
        price(test, "3*17%10", 1);
        price(test, "17%10*3", 21);
        price(test, "20-17%10-3", 10);
        lawFault(test, "p+1(l=1)", -1001);
        lawFault(test, "p-1(l=1)", -1001);
        lawFault(test, "p1+(l=1)", -1003);
        lawFault(test, "p1*(l=1)", -1003);
        lawFault(test, "p1+-1(l=1)", -1003);
        lawFault(test, "p1**1(l=1)", -1003);
        lawFault(test, "p1+*1(l=1)", -1003);
    }

    @Says(of = 0, words = "a FACTOR: [E], a number of one to five digits, or a letter:")
    static void factorsOfAllKinds(Tester test) {
        price(test, "[1+2]*3", 9);
        price(test, "9-[3-2]", 8);
        price(test, "[[l]]", 5);
        price(test, "0", 0);
        price(test, "9", 9);
        price(test, "00000", 0);
        price(test, "00012", 12);
        price(test, "10000/100", 100);
        price(test, "99999-99990", 9);
        lawFault(test, "p[](l=1)", -1002);
        lawFault(test, "p[1(l=1)", -1003);
        lawFault(test, "p1](l=1)", -1002);
        lawFault(test, "p[1)(l=1)", -1003);
        lawFault(test, "p1l(l=1)", -1002);
        lawFault(test, "pl1(l=1)", -1002);
        lawFault(test, "pll(l=1)", -1002);
        lawFault(test, "p1[1](l=1)", -1002);
    }

    @Says(of = 0, words = "l the LENGTH, t the THING, s the SPEAKER, c its COLOUR,")
    static void lettersOfTheSentence(Tester test) {
        NoEcho x = tongueOfAll("a+");
        x.colour(5, 3);
        test.due("l 1", lets(x, "n(!l=1)", 0, 0, 1), 1);
        test.due("l 24", lets(x, "n(!l=24)", 0, 0, 24), 1);
        test.due("t 0", lets(x, "n(!t=0)", 5, 0, 1), 1);
        test.due("t 11", lets(x, "n(!t=11)", 5, 11, 1), 1);
        test.due("s 0", lets(x, "n(!s=0)", 0, 11, 1), 1);
        test.due("s 5", lets(x, "n(!s=5)", 5, 0, 1), 1);
        test.due("c 0", lets(x, "n(!c=0)", 4, 11, 1), 1);
        test.due("c 3", lets(x, "n(!c=3)", 5, 0, 1), 1);
        for (char c = 'a'; c <= 'z'; c++) {
            if ("ltscabrdk".indexOf(c) < 0) {
                lawFault(test, "n(" + c + "=1)", -1002);
            } else {
                lawRead(test, "n(" + c + "=1)", 1);
            }
        }
        lawFault(test, "n(L=1)", -1002);
        lawFault(test, "n(K=1)", -1002);
    }

    @Says(of = 0, words = "a, b LENGTHS of the last SENTENCE and the one ahead of it (0: there is none),")
    static void lengthsAhead(Tester test) {
        NoEcho x = tongue("a+");
        test.due("a of none", lets(x, "n(!a=0)", 0, 0, 1), 1);
        test.due("b of none", lets(x, "n(!b=0)", 0, 0, 1), 1);
        x.say(0, 0, 24);
        test.due("a of one", lets(x, "n(!a=24)", 0, 0, 1), 1);
        test.due("b of one", lets(x, "n(!b=0)", 0, 0, 1), 1);
        x.say(0, 0, 7);
        test.due("a of two", lets(x, "n(!a=7)", 0, 0, 1), 1);
        test.due("b of two", lets(x, "n(!b=24)", 0, 0, 1), 1);
    }

    @Says(of = 0, words = "r, d SPEAKER and COLOUR of the last one (0: there is none),")
    static void speakerAhead(Tester test) {
        NoEcho x = tongue("a+");
        x.colour(0, 3);
        test.due("r of none", lets(x, "n(!r=0)", 5, 0, 1), 1);
        test.due("d of none is 0, not the colour of speaker 0", lets(x, "n(!d=0)", 5, 0, 1), 1);
        x.say(0, 0, 1);
        test.due("r of speaker 0", lets(x, "n(!r=0)", 5, 0, 1), 1);
        test.due("d of speaker 0", lets(x, "n(!d=3)", 5, 0, 1), 1);
        x.say(5, 0, 1);
        test.due("r of speaker 5", lets(x, "n(!r=5)", 0, 0, 1), 1);
        test.due("d of speaker 5", lets(x, "n(!d=0)", 0, 0, 1), 1);
        x.colour(5, 2);
        test.due("d as it is now", lets(x, "n(!d=2)", 0, 0, 1), 1);
    }

    @Says(of = 0, words = "k how many SENTENCES there have been.")
    static void sentencesSoFar(Tester test) {
        NoEcho x = tongue("a+");
        test.due("k of none", lets(x, "n(!k=0)", 0, 0, 1), 1);
        x.say(0, 0, 1);
        test.due("k of one", lets(x, "n(!k=1)", 0, 0, 1), 1);
        fill(x, 200);
        test.due("k of 200", lets(x, "n(!k=200)", 0, 0, 1), 1);
    }

    @Says(of = 0, words = "All is reckoned with 32 bits, as the machine does;")
    static void reckonedWith32Bits(Tester test) {
        condition(test, "65536*32767+65535>0", true);
        condition(test, "65536*32767+65535+1<0", true);
        condition(test, "65536*32768<0", true);
        condition(test, "65536*32768-1>0", true);
        condition(test, "65536*65536=0", true);
        condition(test, "99999*99999/65536=21512", true);
        condition(test, "99999*99999%65536=54977", true);
        price(test, "65536*65536+5", 5);
        price(test, "65536*32768+65536*32768+6", 6);
        price(test, "65536*65535+65537-1", 0);
        price(test, "99999*99999/65536/22", 977);
        // the lowest number over or modulo -1 goes round, too
        condition(test, "65536*32768/[0-1]=65536*32768", true);
        condition(test, "65536*32768%[0-1]=0", true);
        // a comparison is none of a difference
        condition(test, "65536*32768<1", true);
        condition(test, "65536*32767+65535>0-1", true);
        condition(test, "65536*32768>65536*32767", false);
        // towards 0, and the sign of what is divided
        price(test, "[0-7]/2+10", 7);
        price(test, "7/[0-2]+10", 7);
        price(test, "[0-7]%4+10", 7);
        price(test, "7%[0-4]+10", 13);
    }

    @Says(of = 0, words = "what is divided by 0 is REFUSED: then a C does not hold, an E is 0.")
    static void dividedBy0(Tester test) {
        condition(test, "1/0=0", false);
        condition(test, "1%0=0", false);
        condition(test, "0/0=0", false);
        condition(test, "0%0=0", false);
        condition(test, "1=1/0", false);
        condition(test, "l/[l-5]=0", false);
        condition(test, "l/[l-4]=5", true);
        condition(test, "1/0=0|0=0", false);
        condition(test, "!1/0=0", false);
        condition(test, "0=0&1/0<1", false);
        condition(test, "0=1|1/0<1", false);
        price(test, "1/0", 0);
        price(test, "5%0", 0);
        price(test, "7+1/0", 0);
        price(test, "7+1/[l-5]*2+9", 0);
        price(test, "7+1/[l-4]", 8);
        NoEcho x = tongue("a|bb|ccc");
        Tester.law(x, 0, "n(6/[l-2]>5)");
        test.due("refused at two words alone", x.ways(0, 0, 0), bits(1, 2));
        x.say(0, 0, 1);
        Tester.law(x, 0, "p1/0(0=0);p5(0=0)");
        test.due("a refused E is 0, not the next one", x.said(0, 3), 0);
        Tester.law(x, 0, "p4(1/0=0);p5(0=0)");
        test.due("behind a refused C the next one", x.said(0, 3), 5);
        Tester.law(x, 0, "n(1/0=0);n(l=3)");
        test.due("behind a refused n the next one", x.ways(0, 0, 0), bits(1, 2));
    }

    @Says(of = 0, words = "Of a C as much is asked, from the left, as matters.")
    static void askedAsFarAsMatters(Tester test) {
        condition(test, "0=0|1/0=0", true);
        condition(test, "0=1|0=0|1/0=0", true);
        condition(test, "0=1&1/0=0|0=0", true);
        condition(test, "!(0=1&1/0=0)", true);
        condition(test, "(0=0|1/0=0)&0=0", true);
        condition(test, "(0=0|1/0=0)&1/0=0", false);
        condition(test, "0=0&0=0|1/0=0", true);
        condition(test, "!(!(0=0|1/0=0)&1/0=0)", true);
        condition(test, "(0=1&1/0=0)|(0=0|1/0=0)", true);
    }

    @Says(of = 0, words = "FAULTS, the first from the left: 1 what can't stand there (the end, too); 2 a")
    static void firstFaultOfALaw(Tester test) {
        String whole = "n(!l=a&[l+1]*2<3);p[1+2]/3(l>1|(t=2))";
        lawRead(test, whole, 2);
        for (int n = 1; n < whole.length(); n++) {
            NoEcho x = tongue("a");
            Tester.feedText(x, whole);
            int due = n == 17 ? 1 : -1000 - n;
            test.due("the end at " + n, x.law(0, n), due);
        }
        lawFault(test, "x", -1000);
        lawFault(test, "N(l=a)", -1000);
        lawFault(test, "n[l=a]", -1001);
        lawFault(test, "n(l=a]", -1005);
        lawFault(test, "n(l=a))", -1006);
        lawFault(test, "n(l=1()", -1005);
        lawFault(test, "n(l=a);x", -1007);
        lawFault(test, "n(l=a)" + (char) 0, -1006);
        lawFault(test, "n(l=" + (char) ('a' + 128) + ")", -1004);
        lawFault(test, "n(l=" + (char) 255 + ")", -1004);
        // of two faults the left one
        lawFault(test, "n(l=?123456)", -1004);
        lawFault(test, "n(123456?=1)", -2007);
        lawFault(test, "n(123456=1);n(?", -2007);
        lawFault(test, "n((((((((123456", -5007);
        lawFault(test, "n(123456((((((((", -2007);
        lawFault(test, "n(l=?);" + clauses(14), -1004);
    }

    @Says(of = 0, words = "2 a sixth digit, at it;")
    static void aSixthDigit(Tester test) {
        lawRead(test, "n(12345=l)", 1);
        lawFault(test, "n(123456=l)", -2007);
        lawFault(test, "n(1234567=l)", -2007);
        lawFault(test, "n(000000=l)", -2007);
        lawFault(test, "n(l=123456)", -2009);
        lawFault(test, "p123456(l=1)", -2006);
        lawFault(test, "n([123456]=1)", -2008);
        lawFault(test, "n(123456", -2007);
        lawFault(test, "n(12345", -1007);
        lawFault(test, "n(12345=12345+123456)", -2019);
    }

    @Says(of = 0, words = "4 a 15th CLAUSE, at its letter (if that can stand there);")
    static void a15thClause(Tester test) {
        lawRead(test, clauses(14), 14);
        lawFault(test, clauses(14) + ";n", -4098);
        lawFault(test, clauses(14) + ";p", -4098);
        lawFault(test, clauses(14) + ";n(l=a)", -4098);
        lawFault(test, clauses(14) + ";p123456", -4098);
        lawFault(test, clauses(14) + ";x", -1098);
        lawFault(test, clauses(14) + ";;", -1098);
        lawFault(test, clauses(14) + ";(", -1098);
        lawFault(test, clauses(14) + ";", -1098);
        lawFault(test, clauses(14) + "n", -1097);
        lawFault(test, clauses(13) + ";n(l=?);n", -1095);
        lawFault(test, "p1(l=1);" + clauses(13) + ";n(l=a)", -4099);
    }

    @Says(of = 0, words = "5 a seventh of ( [ ! that are open in one another, at it")
    static void sixOpenInALaw(Tester test) {
        lawRead(test, "n((((((l=1))))))", 1);
        lawFault(test, "n(((((((l=1)))))))", -5007);
        lawRead(test, "n([[[[[l]]]]]=1)", 1);
        lawFault(test, "n([[[[[[l]]]]]]=1)", -5007);
        lawRead(test, "n(!!!!!l=1)", 1);
        lawFault(test, "n(!!!!!!l=1)", -5007);
        lawRead(test, "n(!(!([l]=1)))", 1);
        lawFault(test, "n(!(!([[l]]=1)))", -5007);
        lawFault(test, "n(l=[[[[[[l]]]]]])", -5009);
        lawRead(test, "n((((([l]=[l])))))", 1);
        lawFault(test, "n((((([l]=[[l]])))))", -5011);
        lawFault(test, "n((((((", -1007);
        lawFault(test, "n(((((((", -5007);
        lawRead(test, "n([l]+[l]+[l]+[l]+[l]+[l]+[l]+[l]=1)", 1);
        lawRead(test, "n((l=1)&(l=1)&(l=1)&(l=1)&(l=1)&(l=1)&(l=1))", 1);
        // what can't stand there is told ahead of what is too deep
        lawFault(test, "n(l=1(((((((", -1005);
        lawFault(test, "n([[[[[!", -1007);
    }

    @Says(of = 0, words = "(the ( of the CLAUSE counts;")
    static void theBracketOfTheClauseCounts(Tester test) {
        condition(test, "(((((l=5)))))", true);
        lawFault(test, "n(" + "(".repeat(6) + "l=5)", -5007);
        lawFault(test, "p1(" + "(".repeat(6) + "l=5)", -5008);
        lawFault(test, "n(l=1);n(" + "(".repeat(6) + "l=5)", -5014);
    }

    @Says(of = 0, words = "a ! is open till its PIECE ends;")
    static void aNotIsOpenTillItsPieceEnds(Tester test) {
        lawRead(test, "n(!l=1&!l=1&!l=1&!l=1&!l=1&!l=1&!l=1)", 1);
        lawRead(test, "n(!l=1|!l=1|!l=1|!l=1|!l=1|!l=1|!l=1)", 1);
        lawRead(test, "n(!!!!!l=1&!!!!!l=1)", 1);
        lawRead(test, "n(!!!!(l=1)&!!!!(l=1))", 1);
        lawFault(test, "n(!!!!!(l=1))", -5007);
        lawRead(test, "n(!!!![l]=[l])", 1);
        lawFault(test, "n(!!!!![l]=1)", -5007);
        lawFault(test, "n(!!!!!l=[l])", -5009);
        lawFault(test, "n(!!!!(!l=1))", -5007);
        lawRead(test, "n(!!!!!l=1&[[[[[l]]]]]=1)", 1);
        lawFault(test, "n(!l=1&!!!!!!l=1)", -5012);
    }

    @Says(of = 0, words = "the E of a CLAUSE stands ahead of it).")
    static void thePriceStandsAhead(Tester test) {
        price(test, "[[[[[[l]]]]]]", 5);
        lawFault(test, "p[[[[[[[l]]]]]]](l=1)", -5007);
        lawRead(test, "p[[[[[[l]]]]]]((((((l=1))))))", 1);
        lawFault(test, "p[[[[[[l]]]]]](((((((l=1", -5020);
        lawRead(test, "p[[[[[[l]]]]]](l=1);p[[[[[[l]]]]]](l=1)", 2);
    }

    @Says(of = 6, words = "LAW w by the first n bytes of the tape (1 to 200;")
    static void lawByTheFirstBytes(Tester test) {
        NoEcho x = tongue("a|bb|ccc");
        Tester.feedText(x, "n(l=a);n(l=2)");
        test.due("six bytes of it", x.law(0, 6), 1);
        test.due("the first clause alone", x.ways(0, 0, 0), bits(1, 2, 3));
        Tester.feedText(x, "n(l=a);n(l=2)");
        test.due("thirteen bytes", x.law(0, 13), 2);
        test.due("both clauses", x.ways(0, 0, 0), bits(1, 3));
        Tester.feedText(x, "n(l=a)");
        test.due("one byte", x.law(0, 1), -1001);
        String most = "n(l=2" + "+0".repeat(97) + ")";
        test.due("bytes", most.length(), 200);
        test.due("200 bytes", Tester.law(x, 1, most), 1);
        test.due("all of them", x.ways(1, 0, 0), bits(1, 3));
    }

    @Says(of = 6, words = "empty then), in place of the one before:")
    static void lawEmptiesTheTape(Tester test) {
        NoEcho x = tongue("a|bb|ccc");
        for (int i = 0; i < 11; i++) {
            Tester.feedText(x, "n(l=1);n(l=2);p3(l=3)".substring(0, 20));
        }
        test.due("law", x.law(0, 6), 1);
        test.due("all of it is empty", x.count(4), 0);
        test.due("nothing is left", x.law(0, 1), NONE);
        test.due("the law", x.ways(0, 0, 0), bits(2, 3));
        Tester.law(x, 0, "n(l=2)");
        test.due("in place of the one before", x.ways(0, 0, 0), bits(1, 3));
        Tester.law(x, 0, "p9(l=1);p8(l=2)");
        test.due("no ban is left", x.ways(0, 0, 0), bits(1, 2, 3));
        x.say(0, 0, 1);
        test.due("its price", x.paid(0), 9);
        Tester.law(x, 0, "n(l=3)");
        test.due("no price is left", x.paid(0), 0);
    }

    @Says(of = 6, words = "how many CLAUSES;")
    static void howManyClauses(Tester test) {
        NoEcho x = new NoEcho();
        for (int n = 14; n >= 1; n--) {
            test.due("clauses", Tester.law(x, 1, clauses(n)), n);
            test.due("count", x.count(3), n);
        }
        test.due("the other law has none", x.count(2), 0);
        test.due("prices count", Tester.law(x, 1, "p1(l=1);n(l=1);p2(l=1)"), 3);
    }

    @Says(of = 6, words = "a FAULT: as above (the one before stays);")
    static void lawFaultsKeepTheOneBefore(Tester test) {
        lawFault(test, "?", -1000);
        lawFault(test, "n(0=0);n(l=1);p5(0=0);?", -1022);
        lawFault(test, "p5(0=0);n(0=0);n(123456", -2022);
        lawFault(test, "p5(0=0);n(0=0);n(((((((", -5022);
        lawFault(test, "n" + "(l=1".repeat(1) + "+1".repeat(97) + "?", -1199);
        NoEcho x = tongue("a");
        test.due("a fault with none before", Tester.law(x, 1, "n(0=0);"), -1007);
        test.due("still none", x.count(3), 0);
        test.due("all may be said", x.may(1, 0, 0, 1), 1);
    }

    @Says(of = 6, words = "NONE: no such ones,")
    static void lawOfNoSuchOnes(Tester test) {
        NoEcho x = tongue("a|bb");
        Tester.law(x, 0, "n(l=2)");
        for (int i = 0; i < 11; i++) {
            Tester.feedText(x, "n(l=1);n(l=1);n(l=1)");
        }
        for (int w : new int[] {-1, 2, LOW, HIGH}) {
            test.due("law " + w, x.law(w, 6), NONE);
        }
        for (int n : new int[] {0, -1, 201, 220, LOW, HIGH}) {
            test.due("bytes " + n, x.law(0, n), NONE);
        }
        test.due("the tape stays", x.count(4), 220);
        test.due("the law stays", x.ways(0, 0, 0), bits(1));
        test.due("and then", x.law(0, 6), 1);
    }

    @Says(of = 6, words = "it has not so many (the tape stays).")
    static void lawOfAShortTape(Tester test) {
        NoEcho x = tongue("a|bb");
        test.due("an empty tape", x.law(0, 1), NONE);
        Tester.feedText(x, "n(l=1);n(l=1);n(l=1)");
        test.due("21 of 20", x.law(0, 21), NONE);
        test.due("the tape stays", x.count(4), 20);
        test.due("no law", x.count(2), 0);
        test.due("20 of 20", x.law(0, 20), 3);
    }
}
