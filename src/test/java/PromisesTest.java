/** Every promise of the document by hand: ordinary inputs, the edges that are named, wrong inputs. */
public final class PromisesTest {
    private static final int LOW = Integer.MIN_VALUE;
    private static final int HIGH = Integer.MAX_VALUE;
    private static Tester test;

    public static void main(String[] args) {
        test = new Tester("PromisesTest");
        newObject();
        feeds();
        patterns();
        patternFaults();
        thingArguments();
        lengthsOfThings();
        colours();
        lawTexts();
        lawFaults();
        lawArguments();
        lawLetters();
        lawReckoning();
        lawRefused();
        mayAndWays();
        says();
        saidAndPaid();
        judgements();
        heldTalks();
        heldLeastRow();
        heldFarthest();
        codedTalks();
        heardTalks();
        heardWrong();
        anyTalks();
        silences();
        waits();
        rounds();
        seedsAndDraws();
        drawLimit();
        keepsAndUndoes();
        checks();
        counts();
        test.end();
    }

    private static void newObject() {
        NoEcho x = new NoEcho();
        test.due("1 NONE", NoEcho.NONE, -1);
        for (int t = 0; t < 12; t++) {
            test.due("1 lengths", x.lengths(t), 0);
        }
        for (int what = 0; what <= 8; what++) {
            test.due("1 count " + what, x.count(what), what == 5 ? 1 : 0);
        }
        for (int s = 0; s < 6; s++) {
            test.due("1 colour of " + s, x.count(10 + s), 0);
            test.due("1 said by " + s, x.count(20 + s), 0);
            test.due("1 paid " + s, x.paid(s), 0);
        }
        test.due("1 said", x.said(0, 0), -1);
        test.due("1 undo", x.undo(), false);
        test.due("1 may", x.may(0, 0, 0, 1), -2);
        test.due("1 ways", x.ways(1, 0, 0), 0);
    }

    private static void feeds() {
        NoEcho x = new NoEcho();
        for (int i = 1; i <= 11; i++) {
            test.due("2 feed", x.feed(i, 2, 3, 4, 5), 20 * i);
            test.due("2 bytes", x.count(4), 20 * i);
        }
        test.due("2 twelfth feed", x.feed(1, 2, 3, 4, 5), -1);
        test.due("2 bytes stay", x.count(4), 220);
        test.due("2 thing of 60", x.thing(0, 60), -1000);
        test.due("2 tape is empty", x.count(4), 0);
        // the highest byte comes first, and bytes above 127 are not negative
        x.feed(0x61626364, 0x65FF0000, 0, 0, 0);
        test.due("2 order", x.thing(0, 5), 1);
        test.due("2 five words", x.lengths(0), 1 << 5);
        x.feed(0x61FF0000, 0, 0, 0, 0);
        test.due("2 byte 255", x.thing(0, 2), -1001);
        x.feed(0, 0, 0, 0, 0x61616161);
        test.due("2 last ones", x.thing(0, 20), -1000);
    }

    private static void patterns() {
        pattern("a", bits(1));
        pattern("z", bits(1));
        pattern("abc", bits(3));
        pattern("a|bb|ccc", bits(1, 2, 3));
        pattern("a|b", bits(1));
        pattern("(a)", bits(1));
        pattern("[a]", bits(1));
        pattern("[a]b", bits(1, 2));
        pattern("a[bc]d", bits(2, 4));
        pattern("a2", bits(2));
        pattern("a9", bits(9));
        pattern("a9a9a6", bits(24));
        pattern("a9a9a7", 0);
        pattern("(a|bb)2", bits(2, 3, 4));
        pattern("(a|bbb)3", bits(3, 5, 7, 9));
        pattern("[a]3", bits(1, 2, 3));
        pattern("[ab]4c", bits(1, 3, 5, 7, 9));
        pattern("a+", 0x1FFFFFE);
        pattern("[a]+", 0x1FFFFFE);
        pattern("(ab)+", even());
        pattern("[(ab)+]", even());
        pattern("(abcde)+f", bits(6, 11, 16, 21));
        pattern("(a5|b7)+", bits(5, 7, 10, 12, 14, 15, 17, 19, 20, 21, 22, 24));
        pattern("(a9)9", 0);
        pattern("(a9)9|b", bits(1));
        pattern("a9a9a9", 0);
        pattern("[[[[[[a]]]]]]", bits(1));
        pattern("((((((a))))))", bits(1));
        pattern("(([[((a|bb)2)]]))", bits(2, 3, 4));
        pattern("(a+)2", 0x1FFFFFC);
        pattern("((a))[(b)]", bits(1, 2));
        pattern("(a)(b)(c)", bits(3));
        pattern("a|[b]|c+", 0x1FFFFFE);
        pattern("(a8)3", bits(24));
        pattern("(a8)3b", 0);
        pattern("(a|b5)9", bits(9, 13, 17, 21));
        pattern("(((((a)2)2)2)2)2", 0);
        pattern("((((a)2)2)2)2", bits(16));
        pattern("aaaaaaaaaaaaaaaaaaaaaaaa|b", bits(1, 24));
        pattern("aaaaaaaaaaaaaaaaaaaaaaaaaaaaaaaaaaaaaaaaaaaaaaaaaaaaaaaaaaaa", 0);
        pattern("a|a|a|a|a|a|a|a|a|a|a|a|a|a|a|a|a|a|a|a|a|a|a|a|a|a|a|a|a|aa", bits(1, 2));
    }

    private static void patternFaults() {
        patternFault("1", -1000);
        patternFault("|", -1000);
        patternFault("+", -1000);
        patternFault(" a", -1000);
        patternFault("A", -1000);
        patternFault("{", -1000);
        patternFault("`", -1000);
        patternFault(")", -1000);
        patternFault("a|", -1002);
        patternFault("a||b", -1002);
        patternFault("a ", -1001);
        patternFault("a1", -1001);
        patternFault("a0", -1001);
        patternFault("a22", -1002);
        patternFault("a2+", -1002);
        patternFault("a++", -1002);
        patternFault("a)", -1001);
        patternFault("a]", -1001);
        patternFault("(", -1001);
        patternFault("()", -1001);
        patternFault("[]", -1001);
        patternFault("(a", -1002);
        patternFault("[a", -1002);
        patternFault("(a]", -1002);
        patternFault("[a)", -1002);
        patternFault("(a|)", -1003);
        patternFault("(a)1", -1003);
        patternFault("(((((((a)))))))", -5006);
        patternFault("[[[[[[[", -5006);
        patternFault("(([[((a(", -5007);
        patternFault("((((((", -1006);
        patternFault("((((((a))))))(((((((", -5019);
        patternFault("a|(((((((", -5008);
        patternFault("a,(((((((", -1001);
        patternFault("aaaaaaaaaaaaaaaaaaaaaaaaaaaaaaaaaaaaaaaaaaaaaaaaaaaaaaaaaaa|", -1060);
    }

    private static void pattern(String text, int lengths) {
        NoEcho x = new NoEcho();
        test.due("3 thing " + text, Tester.thing(x, 7, text), Integer.bitCount(lengths));
        test.due("4 lengths " + text, x.lengths(7), lengths);
        test.due("3 tape behind " + text, x.count(4), 0);
    }

    private static void patternFault(String text, int fault) {
        NoEcho x = new NoEcho();
        Tester.thing(x, 3, "ab|c");
        test.due("3 thing " + text, Tester.thing(x, 3, text), fault);
        test.due("3 the one before " + text, x.lengths(3), 6);
        test.due("3 tape behind " + text, x.count(4), 0);
    }

    private static void thingArguments() {
        NoEcho x = new NoEcho();
        Tester.feedText(x, "aaaaa");
        int[] things = {-1, 12, LOW, HIGH};
        for (int t : things) {
            test.due("3 no such thing", x.thing(t, 1), -1);
        }
        int[] sizes = {0, -1, 61, 21, LOW, HIGH};
        for (int n : sizes) {
            test.due("3 no such n " + n, x.thing(0, n), -1);
        }
        test.due("3 tape stays", x.count(4), 20);
        test.due("3 first n bytes", x.thing(11, 3), 1);
        test.due("3 three words", x.lengths(11), 8);
        test.due("3 in place of the one before", Tester.thing(x, 11, "a"), 1);
        test.due("3 one word", x.lengths(11), 2);
        test.due("3 none", Tester.thing(x, 11, "a9a9a9"), 0);
        test.due("3 no lengths", x.lengths(11), 0);
        test.due("3 empty tape", x.thing(0, 1), -1);
    }

    private static void lengthsOfThings() {
        NoEcho x = new NoEcho();
        Tester.thing(x, 0, "a");
        Tester.thing(x, 11, "a+");
        test.due("4 first", x.lengths(0), 2);
        test.due("4 last", x.lengths(11), 0x1FFFFFE);
        test.due("4 untold", x.lengths(5), 0);
        test.due("4 below", x.lengths(-1), -1);
        test.due("4 above", x.lengths(12), -1);
        test.due("4 lowest", x.lengths(LOW), -1);
        test.due("4 highest", x.lengths(HIGH), -1);
    }

    private static void colours() {
        NoEcho x = new NoEcho();
        for (int s = 0; s < 6; s++) {
            for (int c = 0; c < 4; c++) {
                test.due("5 colour", x.colour(s, c), true);
                test.due("5 count", x.count(10 + s), c);
            }
        }
        test.due("5 speaker below", x.colour(-1, 0), false);
        test.due("5 speaker above", x.colour(6, 0), false);
        test.due("5 colour below", x.colour(0, -1), false);
        test.due("5 colour above", x.colour(0, 4), false);
        test.due("5 far", x.colour(LOW, HIGH), false);
        test.due("5 stays", x.count(10), 3);
    }

    private static void lawTexts() {
        lawText("n(l=a)", 1);
        lawText("n(l=a);n(l=b)", 2);
        lawText("p5(l=1)", 1);
        lawText("p[l+2]*3-k(l>1&t=0|!s=2)", 1);
        lawText("n(!!!!!l=1)", 1);
        lawText("n((((((l=1))))))", 1);
        lawText("n([[[[[l]]]]]=1)", 1);
        lawText("p[[[[[[l]]]]]](l=1)", 1);
        lawText("n((((([l]=1)))))", 1);
        lawText("n(!!!![l]=[l])", 1);
        lawText("n(99999=00000)", 1);
        lawText("n(l-t-s-c-a-b-r-d-k=0)", 1);
        lawText("n(1*2/3%4=5)", 1);
        lawText(clauses(14), 14);
        lawText(longest(), 1);
    }

    private static void lawText(String text, int clauses) {
        NoEcho x = new NoEcho();
        test.due("6 law " + text, Tester.law(x, 1, text), clauses);
        test.due("6 clauses " + text, x.count(3), clauses);
        test.due("6 the other law " + text, x.count(2), 0);
        test.due("6 tape " + text, x.count(4), 0);
    }

    private static void lawFaults() {
        lawFault("x", -1000);
        lawFault(" n(l=a)", -1000);
        lawFault(";", -1000);
        lawFault("n", -1001);
        lawFault("n1", -1001);
        lawFault("nl(l=1)", -1001);
        lawFault("n(", -1002);
        lawFault("n()", -1002);
        lawFault("n(l)", -1003);
        lawFault("n(l=)", -1004);
        lawFault("n(l=a", -1005);
        lawFault("n(l=a]", -1005);
        lawFault("n(l=a)x", -1006);
        lawFault("n(l=a))", -1006);
        lawFault("n(l=a);", -1007);
        lawFault("n(l=a);;", -1007);
        lawFault("n(l=a)n(l=b)", -1006);
        lawFault("n(l==a)", -1004);
        lawFault("n(l=a=b)", -1005);
        lawFault("n(e=1)", -1002);
        lawFault("n(m=1)", -1002);
        lawFault("n(L=1)", -1002);
        lawFault("n(l= a)", -1004);
        lawFault("n(-1=l)", -1002);
        lawFault("n(l+=1)", -1004);
        lawFault("n(l*+1=1)", -1004);
        lawFault("n(l+1)", -1005);
        lawFault("n(ll=1)", -1003);
        lawFault("n(1l=1)", -1003);
        lawFault("n([l=1)", -1004);
        lawFault("n([l)=1)", -1004);
        lawFault("n([]=1)", -1003);
        lawFault("n((l)=1)", -1004);
        lawFault("n((l=1)", -1007);
        lawFault("n((l=1)=1)", -1007);
        lawFault("n(l=1&)", -1006);
        lawFault("n(l=1|)", -1006);
        lawFault("n(&l=1)", -1002);
        lawFault("n(l=1&&l=2)", -1006);
        lawFault("n(!)", -1003);
        lawFault("n(l!=1)", -1003);
        lawFault("n(l=!1)", -1004);
        lawFault("p(l=1)", -1001);
        lawFault("p", -1001);
        lawFault("p5", -1002);
        lawFault("p5]", -1002);
        lawFault("p[5(l=1)", -1003);
        lawFault("p!5(l=1)", -1001);
        lawFault("p5<6(l=1)", -1002);
        lawFault("n(123456=l)", -2007);
        lawFault("n(000000=l)", -2007);
        lawFault("n(l=123456", -2009);
        lawFault("p123456(l=1)", -2006);
        lawFault("n(12345678=l", -2007);
        lawFault(clauses(14) + ";n", -4098);
        lawFault(clauses(14) + ";p", -4098);
        lawFault(clauses(14) + ";x", -1098);
        lawFault(clauses(14) + ";", -1098);
        lawFault("n(((((((l=1)))))))", -5007);
        lawFault("n(!!!!!!l=1)", -5007);
        lawFault("n(!!!!!!!", -5007);
        lawFault("n(!!!!!(l=1))", -5007);
        lawFault("n(!(!(!(", -5007);
        lawFault("n(!(!([[", -5007);
        lawFault("n(!!!!![l]=1)", -5007);
        lawFault("n([[[[[[l]]]]]]=1)", -5007);
        lawFault("n((((([[l]]=1)))))", -5007);
        lawFault("p[[[[[[[l]]]]]]](l=1)", -5007);
        lawFault("n(((((([", -5007);
        lawFault("n(((((()", -1007);
        lawFault("n(l=1((((((((", -1005);
        lawFault("n(!l=1&!l=1&!l=1&!l=1&!l=1&!!!!!!l=1)", -5032);
        lawFault("n(!l=1&!l=1&!l=1&!l=1&!l=1&!!!!!l=1", -1035);
    }

    private static void lawFault(String text, int fault) {
        NoEcho x = new NoEcho();
        Tester.thing(x, 0, "a|bb");
        Tester.law(x, 0, "n(l=2);p7(l=1)");
        x.say(0, 0, 1);
        test.due("6 law " + text, Tester.law(x, 0, text), fault);
        test.due("6 clauses stay " + text, x.count(2), 2);
        test.due("6 law stays " + text, x.ways(0, 0, 0), 2);
        test.due("6 pay stays " + text, x.paid(0), 7);
        test.due("6 tape " + text, x.count(4), 0);
    }

    private static void lawArguments() {
        NoEcho x = new NoEcho();
        Tester.feedText(x, "n(l=a)");
        int[] laws = {-1, 2, LOW, HIGH};
        for (int w : laws) {
            test.due("6 no such law", x.law(w, 6), -1);
        }
        int[] sizes = {0, -1, 201, 21, LOW, HIGH};
        for (int n : sizes) {
            test.due("6 no such n", x.law(0, n), -1);
        }
        test.due("6 tape stays", x.count(4), 20);
        test.due("6 law", x.law(0, 6), 1);
        for (int i = 0; i < 11; i++) {
            x.feed(0, 0, 0, 0, 0);
        }
        test.due("6 201 bytes", x.law(0, 201), -1);
        test.due("6 200 bytes", x.law(0, 200), -1000);
        test.due("6 tape is empty", x.count(4), 0);
        test.due("6 in place of the one before", Tester.law(x, 0, "n(l=1);n(l=2)"), 2);
        test.due("6 clauses", x.count(2), 2);
    }

    /** Each letter is asked for what it is: the law forbids what is not equal to it. */
    private static void lawLetters() {
        NoEcho x = new NoEcho();
        Tester.thing(x, 4, "a+");
        test.due("6 none is there: a b r d k are 0", lawLets(x, "n(!(a+b+r+d+k=0))", 3, 4, 5), 1);
        x.colour(2, 3);
        x.colour(3, 1);
        x.say(5, 4, 11);
        test.due("6 b is 0", lawLets(x, "n(!(b=0&a=11&r=5&d=0&k=1))", 3, 4, 5), 1);
        x.say(2, 4, 7);
        test.due("6 l", lawLets(x, "n(!l=5)", 3, 4, 5), 1);
        test.due("6 l not", lawLets(x, "n(!l=5)", 3, 4, 6), 0);
        test.due("6 t", lawLets(x, "n(!t=4)", 3, 4, 5), 1);
        test.due("6 s", lawLets(x, "n(!s=3)", 3, 4, 5), 1);
        test.due("6 c", lawLets(x, "n(!c=1)", 3, 4, 5), 1);
        test.due("6 a", lawLets(x, "n(!a=7)", 3, 4, 5), 1);
        test.due("6 b", lawLets(x, "n(!b=11)", 3, 4, 5), 1);
        test.due("6 r", lawLets(x, "n(!r=2)", 3, 4, 5), 1);
        test.due("6 d", lawLets(x, "n(!d=3)", 3, 4, 5), 1);
        test.due("6 k", lawLets(x, "n(!k=2)", 3, 4, 5), 1);
        x.colour(2, 1);
        test.due("6 d as it is now", lawLets(x, "n(!d=1)", 3, 4, 5), 1);
    }

    private static int lawLets(NoEcho x, String text, int s, int t, int l) {
        Tester.law(x, 1, text);
        return x.may(1, s, t, l);
    }

    /** The E of a p clause, told by what the first sentence (five words) is paid. */
    private static void lawReckoning() {
        reckoned("1+2*3", 7);
        reckoned("[1+2]*3", 9);
        reckoned("9-3-2", 4);
        reckoned("9-[3-2]", 8);
        reckoned("100/7/2", 7);
        reckoned("100/[7/2]", 33);
        reckoned("17%10*3", 21);
        reckoned("3*17%10", 1);
        reckoned("7-9", 0);
        reckoned("0-7/2+10", 7);
        reckoned("[0-7]/2+10", 7);
        reckoned("[0-7]%4+10", 7);
        reckoned("[0-7]%[0-4]+10", 7);
        reckoned("998", 998);
        reckoned("999", 999);
        reckoned("1000", 999);
        reckoned("99999", 999);
        reckoned("00012", 12);
        reckoned("65536*32768/65536/32768*7", 0);
        reckoned("65536*32767/65536/32767*7", 7);
        reckoned("65536*65536+5", 5);
        reckoned("[0-65536*32768]/[0-1]+65536*32768+6", 6);
        reckoned("[0-65536*32768]%[0-1]+4", 4);
        reckoned("99999*99999/10000/100", 999);
        reckoned("l*k", 0);
        reckoned("l", 5);
        reckoned("l*l*l", 125);
    }

    private static void reckoned(String text, int value) {
        NoEcho x = new NoEcho();
        Tester.thing(x, 0, "a5");
        x.say(0, 0, 5);
        StringBuilder clause = new StringBuilder("p").append(text).append("(0=0)");
        test.due("6 clause " + text, Tester.law(x, 0, clause.toString()), 1);
        test.due("6 reckons " + text, x.said(0, 3), value);
    }

    private static void lawRefused() {
        condition("1/0=0", 0);
        condition("1%0=0", 0);
        condition("!1/0=0", 0);
        condition("!(1/0=0)", 0);
        condition("0=0|1/0=0", 1);
        condition("1/0=0|0=0", 0);
        condition("(1/0=0)|0=0", 0);
        condition("0=1&1/0=0", 0);
        condition("!(0=1&1/0=0)", 1);
        condition("0=1&1/0=0|0=0", 1);
        condition("!(0=0|1/0=0)", 0);
        condition("(0=0|1/0=0)&0=0", 1);
        condition("(0=1|1/0=0)|0=0", 0);
        condition("1=1|1=2&1=3", 1);
        condition("1=2&1=1|1=1", 1);
        condition("1=2&(1=1|1=1)", 0);
        condition("!1=2&1=1", 1);
        condition("!(1=2&1=1)", 1);
        condition("!1=1|1=1", 1);
        condition("!!1=1", 1);
        condition("!!!1=1", 0);
        condition("1<2&2>1&2=2", 1);
        condition("2<2", 0);
        condition("2>2", 0);
        condition("2-3<0", 1);
        condition("0-1<0-2", 0);
        condition("l/[l-l]=0", 0);
        NoEcho x = new NoEcho();
        Tester.thing(x, 0, "a|bb|ccc");
        // what is divided by 0 at one length says nothing of the others
        Tester.law(x, 0, "n(6/[l-2]>5)");
        test.due("6 refused at 2", x.ways(0, 0, 0), bits(1, 2));
        x.say(0, 0, 1);
        Tester.law(x, 0, "p1/0(0=0);p5(0=0)");
        test.due("6 a refused E is 0", x.said(0, 3), 0);
        Tester.law(x, 0, "p3+1/0(0=0)");
        test.due("6 all of a refused E is 0", x.said(0, 3), 0);
        Tester.law(x, 0, "p4(1/0=0);p5(0=0)");
        test.due("6 the next clause", x.said(0, 3), 5);
    }

    private static void condition(String text, int holds) {
        NoEcho x = new NoEcho();
        Tester.thing(x, 0, "a");
        String clause = new StringBuilder("n(").append(text).append(")").toString();
        test.due("6 clause " + clause, Tester.law(x, 0, clause), 1);
        test.due("6 holds " + text, x.may(0, 0, 0, 1), 1 - holds);
    }

    private static void mayAndWays() {
        NoEcho x = new NoEcho();
        Tester.thing(x, 0, "a|bb|ccc");
        Tester.thing(x, 11, "aaaa");
        Tester.law(x, 0, "n(l=a);p5(l=1);n(l=3&s=5)");
        Tester.law(x, 1, "n(t=11)");
        test.due("7 may", x.may(0, 0, 0, 1), 1);
        test.due("7 any n will do", x.may(0, 5, 0, 3), 0);
        test.due("7 law 1", x.may(1, 5, 0, 3), 1);
        test.due("7 law 1 bans", x.may(1, 5, 11, 4), 0);
        test.due("7 no such length of it", x.may(0, 0, 0, 4), -2);
        int[] lengths = {0, -1, 25, 33, 34, LOW, HIGH};
        for (int l : lengths) {
            test.due("7 no length", x.may(0, 0, 0, l), -2);
        }
        test.due("7 no law", x.may(2, 0, 0, 1), -1);
        test.due("7 law below", x.may(-1, 0, 0, 1), -1);
        test.due("7 no speaker", x.may(0, 6, 0, 1), -1);
        test.due("7 speaker below", x.may(0, -1, 0, 1), -1);
        test.due("7 no thing", x.may(0, 0, 12, 1), -1);
        test.due("7 thing below", x.may(0, 0, -1, 1), -1);
        test.due("7 NONE ahead of -2", x.may(0, 6, 0, 25), -1);
        test.due("7 asking says nothing", x.count(0), 0);
        test.due("8 ways", x.ways(0, 0, 0), bits(1, 2, 3));
        test.due("8 ways of 5", x.ways(0, 5, 0), bits(1, 2));
        test.due("8 ways by law 1", x.ways(1, 5, 11), 0);
        test.due("8 a thing without lengths", x.ways(0, 0, 3), 0);
        x.say(1, 0, 2);
        test.due("8 no echo", x.ways(0, 0, 0), bits(1, 3));
        test.due("8 no law", x.ways(2, 0, 0), -1);
        test.due("8 law below", x.ways(-1, 0, 0), -1);
        test.due("8 no speaker", x.ways(0, 6, 0), -1);
        test.due("8 speaker below", x.ways(0, -1, 0), -1);
        test.due("8 no thing", x.ways(0, 0, 12), -1);
        test.due("8 thing below", x.ways(0, 0, LOW), -1);
        Tester.thing(x, 0, "a+");
        Tester.law(x, 0, "n(l%3=0);n(l>20)");
        test.due("8 all lengths", x.ways(0, 0, 0), bits(1, 2, 4, 5, 7, 8, 10, 11, 13, 14, 16, 17, 19, 20));
    }

    private static void says() {
        NoEcho x = new NoEcho();
        Tester.thing(x, 0, "a|bb|ccc");
        Tester.law(x, 0, "n(l=a)");
        Tester.law(x, 1, "n(0=0)");
        test.due("9 say", x.say(5, 0, 3), 1);
        test.due("9 no echo", x.say(4, 0, 3), -3);
        test.due("9 no such length of it", x.say(4, 0, 4), -2);
        test.due("9 length 0", x.say(4, 0, 0), -2);
        test.due("9 length 25", x.say(4, 0, 25), -2);
        test.due("9 length 33", x.say(4, 0, 33), -2);
        test.due("9 lowest length", x.say(4, 0, LOW), -2);
        test.due("9 a thing without lengths", x.say(4, 1, 1), -2);
        test.due("9 no speaker", x.say(6, 0, 1), -1);
        test.due("9 speaker below", x.say(-1, 0, 1), -1);
        test.due("9 no thing", x.say(0, 12, 1), -1);
        test.due("9 thing below", x.say(0, -1, 1), -1);
        test.due("9 nothing was said", x.count(0), 1);
        for (int i = 2; i <= 200; i++) {
            test.due("9 say on", x.say(i % 6, 0, 1 + i % 2), i);
        }
        test.due("9 200 are there", x.say(0, 0, 3), -1);
        test.due("9 200 are there, -2", x.say(0, 0, 4), -1);
        test.due("9 200 are there, -3", x.say(0, 0, 1), -1);
        test.due("9 count", x.count(0), 200);
        test.due("7 may at 200", x.may(0, 0, 0, 3), 1);
        test.due("18 waited at 200", x.waited(63, 1), 1);
    }

    private static void saidAndPaid() {
        NoEcho x = new NoEcho();
        Tester.thing(x, 2, "a|bb|ccc");
        x.say(3, 2, 1);
        x.say(4, 2, 3);
        x.say(3, 2, 2);
        test.due("10 speaker", x.said(1, 0), 4);
        test.due("10 thing", x.said(1, 1), 2);
        test.due("10 length", x.said(1, 2), 3);
        test.due("10 pay without a law", x.said(1, 3), 0);
        test.due("10 what 4", x.said(1, 4), -1);
        test.due("10 what -1", x.said(1, -1), -1);
        test.due("10 place 3", x.said(3, 0), -1);
        test.due("10 place -1", x.said(-1, 0), -1);
        test.due("10 place far", x.said(HIGH, 3), -1);
        Tester.law(x, 1, "p9(0=0)");
        test.due("10 law 1 pays nothing", x.said(0, 3), 0);
        Tester.law(x, 0, "n(l=3);p100*a+10*b+k(k>0);p50(0=0)");
        test.due("10 first: as it was said", x.said(0, 3), 50);
        test.due("10 second", x.said(1, 3), 101);
        test.due("10 third", x.said(2, 3), 312);
        test.due("11 paid", x.paid(3), 362);
        test.due("11 paid 4", x.paid(4), 101);
        test.due("11 paid 0", x.paid(0), 0);
        test.due("11 speaker -1", x.paid(-1), -1);
        test.due("11 speaker 6", x.paid(6), -1);
        Tester.law(x, 0, "p100*r+10*d+c(l<3);p0-5(l=3);p7(0=0)");
        test.due("10 no last one", x.said(0, 3), 0);
        x.colour(3, 2);
        x.colour(4, 1);
        test.due("10 colours as they are now", x.said(2, 3), 412);
        test.due("10 beyond its bound", x.said(1, 3), 0);
        Tester.law(x, 0, "p600*l(0=0)");
        test.due("10 at most 999", x.said(1, 3), 999);
        test.due("11 the bound of each", x.paid(3), 1599);
        Tester.law(x, 0, "p1(t=1);p2(t=2&s=3);p3(t=2)");
        test.due("11 the first whose C holds", x.paid(3), 4);
        test.due("11 the next", x.paid(4), 3);
        NoEcho y = new NoEcho();
        Tester.thing(y, 0, "a");
        for (int i = 0; i < 200; i++) {
            y.say(1, 0, 1);
        }
        Tester.law(y, 0, "p9*999(0=0)");
        test.due("11 200 of the most", y.paid(1), 199800);
    }

    private static void judgements() {
        NoEcho x = new NoEcho();
        Tester.thing(x, 0, "a|bb|ccc");
        Tester.law(x, 0, "n(l=a)");
        Tester.law(x, 1, "n(k>3|s=r&k>0)");
        test.due("12 all", Tester.judged(x, 0, 3, 0, 0, 1, 0, 0, 2, 0, 0, 1), 3);
        test.due("12 tape", x.count(4), 0);
        test.due("12 echo", Tester.judged(x, 0, 3, 0, 0, 1, 0, 0, 1, 0, 0, 1), 1);
        test.due("12 law 1: r", Tester.judged(x, 1, 3, 0, 0, 1, 1, 0, 1, 1, 0, 1), 2);
        test.due("12 law 1: k", Tester.judged(x, 1, 5, 0, 0, 1, 1, 0, 1, 0, 0, 1, 1, 0, 1, 0, 0, 1), 4);
        test.due("12 no such length", Tester.judged(x, 1, 2, 0, 0, 1, 1, 0, 4), 1);
        test.due("12 length 0", Tester.judged(x, 1, 2, 0, 0, 0, 1, 0, 1), 0);
        test.due("12 length 255", Tester.judged(x, 1, 2, 0, 0, 1, 1, 0, 255), 1);
        test.due("12 length 33", Tester.judged(x, 1, 2, 0, 0, 1, 1, 0, 33), 1);
        test.due("12 no speaker", Tester.judged(x, 0, 2, 0, 0, 1, 6, 0, 2), -2);
        test.due("12 tape is empty at -2", x.count(4), 0);
        test.due("12 no thing", Tester.judged(x, 0, 2, 0, 12, 1, 0, 0, 2), -2);
        test.due("12 the place is not told then", Tester.judged(x, 0, 3, 0, 0, 1, 0, 0, 1, 6, 0, 2), -2);
        test.due("12 beyond n", Tester.judged(x, 0, 2, 0, 0, 1, 0, 0, 2, 6, 0, 2), 2);
        x.say(2, 0, 3);
        test.due("12 goes on", Tester.judged(x, 0, 1, 0, 0, 3), 0);
        test.due("12 goes on by law 1", Tester.judged(x, 1, 1, 2, 0, 3), 0);
        test.due("12 says nothing", x.count(0), 1);
        Tester.feed(x, 0, 0, 1);
        test.due("12 n 0", x.judged(0, 0), -1);
        test.due("12 n below", x.judged(0, LOW), -1);
        test.due("12 n 61", x.judged(0, 61), -1);
        test.due("12 n highest", x.judged(0, HIGH), -1);
        test.due("12 n wraps", x.judged(0, 0x55555556), -1);
        test.due("12 law 2", x.judged(2, 1), -1);
        test.due("12 law -1", x.judged(-1, 1), -1);
        test.due("12 not so many", x.judged(0, 7), -1);
        test.due("12 tape stays", x.count(4), 20);
        test.due("12 then it is used", x.judged(0, 6), 1);
        int[] many = new int[180];
        for (int i = 0; i < 60; i++) {
            many[3 * i + 2] = 1 + i % 2;
        }
        test.due("12 sixty", Tester.judged(x, 0, 60, many), 60);
        many[179] = 1;
        test.due("12 the last of sixty", Tester.judged(x, 0, 60, many), 59);
    }

    private static void heldTalks() {
        NoEcho x = new NoEcho();
        Tester.thing(x, 0, "a|bb|ccc");
        Tester.thing(x, 1, "bb|ccc");
        Tester.law(x, 0, "n(l=a)");
        Tester.law(x, 1, "n(l=b)");
        int[] told = {0, 0, 1, 1, 0, 0, 1, 1};
        held(x, 1, told, 6, 1, 2, 1, 2);
        held(x, 2, told, 8, 1, 2, 2, 3);
        held(x, 3, told, 8, 2, 3, 1, 2);
        x.say(0, 0, 1);
        held(x, 1, told, 8, 2, 3, 1, 2);
        test.due("13 laws 0", Tester.held(x, 0, 1, -1, 0, 0), -1);
        test.due("13 tape stays", x.count(4), 20);
        test.due("13 laws 4", x.held(4, 1, -1), -1);
        test.due("13 laws -1", x.held(-1, 1, -1), -1);
        test.due("13 n 0", x.held(1, 0, -1), -1);
        test.due("13 n 13", x.held(1, 13, -1), -1);
        test.due("13 n lowest", x.held(1, LOW, -1), -1);
        test.due("13 n highest", x.held(1, HIGH, -1), -1);
        test.due("13 what -2", x.held(1, 1, -2), -1);
        test.due("13 what n", x.held(1, 1, 1), -1);
        test.due("13 what 19", x.held(1, 1, 19), -1);
        test.due("13 what 21", x.held(1, 1, 21), -1);
        test.due("13 not so many", x.held(1, 11, -1), -1);
        test.due("13 tape still", x.count(4), 20);
        test.due("13 ten of 20 bytes", x.held(1, 10, 20), 10);
        test.due("13 tape is empty", x.count(4), 0);
        test.due("13 no speaker", Tester.held(x, 1, 2, -1, 0, 0, 6, 0), -3);
        test.due("13 tape is empty at -3", x.count(4), 0);
        test.due("13 no thing", Tester.held(x, 1, 2, 20, 0, 0, 0, 12), -3);
        test.due("13 no such ones go ahead", Tester.held(x, 1, 2, 2, 6, 0, 0, 12), -1);
        test.due("13 says nothing", x.count(0), 1);
    }

    private static void held(NoEcho x, int laws, int[] told, int words, int... row) {
        int n = told.length / 2;
        test.due("13 words", Tester.held(x, laws, n, -1, told), words);
        test.due("13 at most", Tester.held(x, laws, n, 20, told), n);
        for (int i = 0; i < n; i++) {
            test.due("13 place " + i + " by " + laws, Tester.held(x, laws, n, i, told), row[i]);
        }
    }

    private static void heldLeastRow() {
        NoEcho x = new NoEcho();
        Tester.thing(x, 0, "a+");
        // sums of 6 in three: the least row of like ones is told
        Tester.law(x, 0, "n(l=a|l=b)");
        held(x, 1, new int[] {0, 0, 0, 0, 0, 0}, 6, 1, 2, 3);
        Tester.law(x, 0, "n(k=1&l<5&a<3);n(k=1&l<4)");
        held(x, 1, new int[] {0, 0, 0, 0, 0, 0}, 7, 1, 5, 1);
        Tester.law(x, 0, "n(k=1&!l=9-2*a&a<4);n(k=1&a>3)");
        held(x, 1, new int[] {0, 0, 0, 0}, 6, 3, 3);
        // twelve of them, each longer than the last by two at least
        Tester.law(x, 0, "n(l<a+2)");
        held(x, 1, new int[24], 2 + 4 + 6 + 8 + 10 + 12 + 14 + 16 + 18 + 20 + 22 + 24,
                2, 4, 6, 8, 10, 12, 14, 16, 18, 20, 22, 24);
        Tester.law(x, 0, "n(l<a+2);n(l<3)");
        test.due("13 eleven at most", Tester.held(x, 1, 12, 20, new int[24]), 11);
        test.due("13 twelve can't be", Tester.held(x, 1, 12, -1, new int[24]), -2);
        // the price clauses forbid nothing
        Tester.law(x, 0, "p5(0=0)");
        held(x, 1, new int[24], 12, 1, 1, 1, 1, 1, 1, 1, 1, 1, 1, 1, 1);
        Tester.law(x, 1, "n(l=a)");
        held(x, 3, new int[8], 6, 1, 2, 1, 2);
    }

    private static void heldFarthest() {
        NoEcho x = new NoEcho();
        Tester.thing(x, 0, "a|bb");
        Tester.thing(x, 1, "a");
        Tester.law(x, 0, "n(l=a)");
        test.due("13 can't be", Tester.held(x, 1, 3, -1, 0, 0, 0, 1, 0, 1), -2);
        test.due("13 can't be, a place", Tester.held(x, 1, 3, 0, 0, 0, 0, 1, 0, 1), -2);
        test.due("13 two at most", Tester.held(x, 1, 3, 20, 0, 0, 0, 1, 0, 1), 2);
        test.due("13 one at most", Tester.held(x, 1, 3, 20, 0, 1, 0, 1, 0, 1), 1);
        test.due("13 none at most", Tester.held(x, 1, 3, 20, 0, 5, 0, 1, 0, 1), 0);
        test.due("13 no lengths", Tester.held(x, 1, 1, -1, 0, 5), -2);
        test.due("13 s and c", lawHeld(x, "n(s=1);n(c=2)"), 1);
        x.colour(2, 2);
        test.due("13 colours", lawHeld(x, "n(c=2)"), 2);
        test.due("13 r", lawHeld(x, "n(r=1&k>0)"), 2);
        test.due("13 d", lawHeld(x, "n(d=2)"), 3);
        test.due("13 k", lawHeld(x, "n(k=3)"), 3);
        test.due("13 t", lawHeld(x, "n(t=1)"), 3);
    }

    /** Speakers 0 to 3 say things 0, 0, 0, 1: how many at most. */
    private static int lawHeld(NoEcho x, String text) {
        Tester.law(x, 1, text);
        return Tester.held(x, 2, 4, 20, 0, 0, 1, 0, 2, 0, 3, 1);
    }

    private static void codedTalks() {
        NoEcho x = new NoEcho();
        Tester.thing(x, 0, "a+");
        Tester.thing(x, 1, "a|bb|ccc");
        Tester.law(x, 0, "n(l=a)");
        Tester.law(x, 1, "n(0=0)");
        int[] told = {0, 0, 0, 1, 0, 0, 2, 0, 1};
        test.due("14 words", Tester.coded(x, 2, 3, -1, told), 7);
        test.due("14 place 0", Tester.coded(x, 2, 3, 0, told), 2);
        test.due("14 place 1", Tester.coded(x, 2, 3, 1, told), 4);
        test.due("14 place 2", Tester.coded(x, 2, 3, 2, told), 1);
        test.due("14 tape", x.count(4), 0);
        test.due("14 at most", Tester.coded(x, 2, 3, 20, told), 3);
        test.due("14 modulo 5", Tester.coded(x, 5, 2, -1, 0, 0, 4, 0, 0, 4), 13);
        test.due("14 modulo 4", Tester.coded(x, 4, 1, -1, 0, 0, 0), 4);
        test.due("14 modulo 3", Tester.coded(x, 3, 1, -1, 0, 1, 0), 3);
        test.due("14 can't be", Tester.coded(x, 4, 2, -1, 0, 0, 3, 0, 1, 0), -2);
        test.due("14 one at most", Tester.coded(x, 4, 2, 20, 0, 0, 3, 0, 1, 0), 1);
        test.due("14 a place that can't be", Tester.coded(x, 4, 2, 1, 0, 0, 3, 0, 1, 0), -2);
        test.due("14 digit m", Tester.coded(x, 4, 2, -1, 0, 0, 3, 0, 1, 4), -3);
        test.due("14 digit 255", Tester.coded(x, 5, 1, 20, 0, 0, 255), -3);
        test.due("14 tape is empty at -3", x.count(4), 0);
        test.due("14 no speaker", Tester.coded(x, 2, 1, -1, 6, 0, 0), -3);
        test.due("14 no thing", Tester.coded(x, 2, 1, -1, 0, 12, 0), -3);
        test.due("14 beyond n", Tester.coded(x, 2, 1, -1, 0, 0, 0, 9, 9, 9), 2);
        Tester.feed(x, 0, 0, 0);
        test.due("14 m 1", x.coded(1, 1, -1), -1);
        test.due("14 m 6", x.coded(6, 1, -1), -1);
        test.due("14 m 0", x.coded(0, 1, -1), -1);
        test.due("14 n 0", x.coded(2, 0, -1), -1);
        test.due("14 n 13", x.coded(2, 13, -1), -1);
        test.due("14 n far", x.coded(2, HIGH, -1), -1);
        test.due("14 what n", x.coded(2, 1, 1), -1);
        test.due("14 what -2", x.coded(2, 1, -2), -1);
        test.due("14 what 21", x.coded(2, 1, 21), -1);
        test.due("14 not so many", x.coded(2, 7, -1), -1);
        test.due("14 tape stays", x.count(4), 20);
        test.due("14 six of 20 bytes", x.coded(2, 6, -1), 18);
        test.due("14 twelve", Tester.coded(x, 2, 12, -1, new int[36]), 36);
        test.due("14 a place of twelve", Tester.coded(x, 2, 12, 11, new int[36]), 4);
    }

    private static void heardTalks() {
        NoEcho x = new NoEcho();
        Tester.thing(x, 1, "a|bb");
        Tester.thing(x, 3, "bb");
        Tester.thing(x, 11, "a|bb|ccc");
        Tester.law(x, 0, "n(t=3&s=2);n(l=a);n(t=11&r=4&k>0)");
        test.due("15 how many", Tester.heard(x, 2, -1, 0, 1, 0, 2), 6);
        test.due("15 tape", x.count(4), 0);
        test.due("15 first row", Tester.heard(x, 2, 0, 0, 1, 0, 2), 1);
        test.due("15 first row, 1", Tester.heard(x, 2, 1, 0, 1, 0, 2), 1);
        test.due("15 bits at 0", Tester.heard(x, 2, 10, 0, 1, 0, 2), bits(1, 11));
        test.due("15 bits at 1", Tester.heard(x, 2, 11, 0, 1, 0, 2), bits(1, 3, 11));
        test.due("15 speaker 2", Tester.heard(x, 2, 11, 0, 1, 2, 2), bits(1, 11));
        test.due("15 behind speaker 4", Tester.heard(x, 2, 11, 4, 1, 0, 2), bits(1, 3));
        test.due("15 a three", Tester.heard(x, 1, 0, 0, 3), 11);
        test.due("15 echo", Tester.heard(x, 3, -1, 0, 1, 0, 2, 0, 2), 0);
        test.due("15 echo, first row", Tester.heard(x, 3, 0, 0, 1, 0, 2, 0, 2), -2);
        test.due("15 echo, bits", Tester.heard(x, 3, 10, 0, 1, 0, 2, 0, 2), 0);
        test.due("15 a length of none", Tester.heard(x, 1, -1, 0, 24), 0);
        x.say(4, 11, 3);
        test.due("15 goes on", Tester.heard(x, 1, 10, 0, 2), bits(1, 3));
        test.due("15 goes on, echo", Tester.heard(x, 1, -1, 0, 3), 0);
        NoEcho y = new NoEcho();
        for (int t = 0; t < 12; t++) {
            Tester.thing(y, t, "a+");
        }
        int[] told = {0, 1, 1, 24, 2, 1, 3, 1, 4, 1, 5, 1, 0, 1, 1, 1};
        test.due("15 all rows of eight", Tester.heard(y, 8, -1, told), 429981696L);
        test.due("15 all things", Tester.heard(y, 8, 17, told), 4095);
        test.due("15 the least row", Tester.heard(y, 8, 7, told), 0);
    }

    private static void heardWrong() {
        NoEcho x = new NoEcho();
        Tester.thing(x, 0, "a");
        test.due("15 no speaker", Tester.heard(x, 2, -1, 0, 1, 6, 1), -3);
        test.due("15 tape is empty at -3", x.count(4), 0);
        test.due("15 length 0", Tester.heard(x, 2, -1, 0, 1, 0, 0), -3);
        test.due("15 length 25", Tester.heard(x, 2, -1, 0, 25, 0, 1), -3);
        test.due("15 length 255", Tester.heard(x, 1, 0, 0, 255), -3);
        Tester.feed(x, 0, 1, 0, 1, 0, 1, 0, 1, 0, 1, 0, 1, 0, 1, 0, 1);
        test.due("15 n 0", x.heard(0, -1), -1);
        test.due("15 n 9", x.heard(9, -1), -1);
        test.due("15 n far", x.heard(HIGH, -1), -1);
        test.due("15 n lowest", x.heard(LOW, -1), -1);
        test.due("15 what -2", x.heard(2, -2), -1);
        test.due("15 what n", x.heard(2, 2), -1);
        test.due("15 what 9", x.heard(2, 9), -1);
        test.due("15 what 10 + n", x.heard(2, 12), -1);
        test.due("15 what far", x.heard(2, HIGH), -1);
        test.due("15 tape stays", x.count(4), 20);
        test.due("15 then it is used", x.heard(8, 17), 1);
        test.due("15 empty tape", x.heard(1, -1), -1);
    }

    private static void anyTalks() {
        NoEcho x = new NoEcho();
        Tester.thing(x, 2, "a|bb");
        Tester.thing(x, 5, "bb|ccc");
        Tester.thing(x, 11, "a");
        Tester.law(x, 0, "n(l=a)");
        int both = bits(2, 5);
        test.due("16 each", x.anyTalk(both, 5, -1), 1);
        test.due("16 all can", x.anyTalk(both, 5, 4), -2);
        test.due("16 not each", x.anyTalk(bits(2, 11), 3, -1), 0);
        // 2 2 2, 2 2 11 and 2 11 2 can be held; two of 11 behind one another can't
        test.due("16 row 0", x.anyTalk(bits(2, 11), 3, 0), 2);
        test.due("16 row 1", x.anyTalk(bits(2, 11), 3, 1), 11);
        test.due("16 row 2", x.anyTalk(bits(2, 11), 3, 2), 11);
        test.due("16 the last two of four", x.anyTalk(bits(2, 11), 4, 3), 11);
        test.due("16 one that has no length", x.anyTalk(bits(0, 2), 3, 0), 0);
        test.due("16 behind it the least", x.anyTalk(bits(0, 2), 3, 2), 0);
        test.due("16 last place", x.anyTalk(bits(2, 6), 3, 2), 6);
        Tester.law(x, 0, "n(s=1&t=5)");
        test.due("16 speakers by turns: 2", x.anyTalk(both, 4, 2), 2);
        test.due("16 speakers by turns: 5", x.anyTalk(both, 4, 3), 5);
        test.due("16 ahead of it the least", x.anyTalk(both, 4, 1), 2);
        test.due("16 the second one", x.anyTalk(both, 2, 1), 5);
        test.due("16 one sentence by speaker 0", x.anyTalk(both, 1, -1), 1);
        Tester.law(x, 0, "n(k=4)");
        test.due("16 k", x.anyTalk(both, 4, -1), 1);
        test.due("16 k 4", x.anyTalk(both, 5, -1), 0);
        x.say(3, 11, 1);
        test.due("16 goes on", x.anyTalk(both, 4, -1), 0);
        Tester.law(x, 0, "n(r=3&t=5)");
        test.due("16 behind speaker 3", x.anyTalk(both, 1, 0), 5);
        Tester.law(x, 0, "n(a=1&b=0&t=5)");
        test.due("16 behind the talk", x.anyTalk(both, 2, 0), 5);
        int[][] wrong = {{0, 1, -1}, {1 << 12, 1, -1}, {31, 1, -1}, {-1, 1, -1}, {LOW, 1, -1}, {1, 0, -1},
            {1, 6, -1}, {1, LOW, -1}, {1, HIGH, -1}, {1, 1, -2}, {1, 1, 1}, {1, 3, 3}, {1, 3, HIGH}};
        for (int[] w : wrong) {
            test.due("16 no such ones", x.anyTalk(w[0], w[1], w[2]), -3);
        }
        test.due("16 says nothing", x.count(0), 1);
    }

    private static void silences() {
        NoEcho x = new NoEcho();
        Tester.thing(x, 0, "a|bb|ccc|dddd");
        Tester.thing(x, 4, "bb|dddd");
        Tester.thing(x, 7, "a");
        // each longer than the last: a four silences
        Tester.law(x, 0, "n(l<a+1)");
        silenced(x, 0, 1, 1, 1, 6, 1, 0, 4);
        silenced(x, 2, bits(0, 4), 3, 1, 2, 1, 0, 4);
        silenced(x, 2, bits(4, 7), 3, 1, 2, 1, 4, 4);
        silenced(x, 2, bits(7), 3, 1, 2, 0, 7, 1);
        silenced(x, 2, bits(7), 3, 1, 3, -1, 7, 1);
        silenced(x, 2, bits(7), 3, 1, 1, 0, 7, 1);
        silenced(x, 2, 0, 3, 1, 1, -1, -2, -2);
        silenced(x, 2, bits(4), 3, 0, 6, 1, 4, 2);
        silenced(x, 2, bits(4), 3, 0, 1, 0, 4, 2);
        silenced(x, 2, bits(8), 3, 1, 6, -1, -2, -2);
        x.say(5, 0, 3);
        silenced(x, 0, bits(0, 4), 1, 1, 6, 1, 0, 4);
        x.say(5, 0, 4);
        silenced(x, 0, bits(0, 4), 1, 1, 6, -1, -2, -2);
        Tester.law(x, 0, "n(k>3)");
        silenced(x, 0, 1, 1, 1, 2, 0, 0, 1);
        silenced(x, 0, 1, 1, 1, 3, -1, 0, 1);
        Tester.law(x, 0, "n(s=4&a=2)");
        silenced(x, 0, 1, 4, 1, 6, 1, 0, 1);
        silenced(x, 0, 1, 4, 1, 2, 1, 0, 2);
        silenced(x, 4, 1, 0, 1, 6, -1, 0, 1);
        // the law asks b alone: who says what lets the other no length two sentences on
        Tester.thing(x, 7, "a|bb");
        Tester.law(x, 0, "n(l=b|k>4&l+b=3)");
        silenced(x, 0, bits(7), 1, bits(7), 2, 0, 7, 1);
        silenced(x, 0, bits(7), 1, bits(7), 4, 1, 7, 1);
        int[][] wrong = {{6, 1, 1, 1, 1, 0}, {-1, 1, 1, 1, 1, 0}, {0, 1, 6, 1, 1, 0}, {0, 1, -1, 1, 1, 0},
            {0, 1, 0, 1, 1, 0}, {0, 1 << 12, 1, 1, 1, 0}, {0, 1, 1, -1, 1, 0}, {0, LOW, 1, 1, 1, 0},
            {0, 1, 1, 1, 0, 0}, {0, 1, 1, 1, 7, 0}, {0, 1, 1, 1, LOW, 0}, {0, 1, 1, 1, 1, -1}, {0, 1, 1, 1, 1, 3}};
        for (int[] w : wrong) {
            test.due("17 no such ones", x.silenced(w[0], w[1], w[2], w[3], w[4], w[5]), -3);
        }
        test.due("17 says nothing", x.count(0), 2);
    }

    private static void silenced(NoEcho x, int s, int things, int q, int others, int n, int... due) {
        for (int what = 0; what <= 2; what++) {
            test.due("17 silenced what " + what, x.silenced(s, things, q, others, n, what), due[what]);
        }
    }

    private static void waits() {
        NoEcho x = new NoEcho();
        test.due("18 no thing can be said", x.waited(63, 1), -2);
        Tester.thing(x, 0, "a+");
        test.due("18 at once", x.waited(1, 24), 0);
        Tester.law(x, 0, "n(l>a+1)");
        for (int l = 1; l <= 24; l++) {
            test.due("18 step by step", x.waited(63, l), l <= 6 ? l - 1 : -2);
        }
        x.say(0, 0, 1);
        test.due("18 goes on", x.waited(32, 2), 0);
        test.due("18 five", x.waited(32, 7), 5);
        Tester.law(x, 0, "n(l=5&k<4)");
        test.due("18 k", x.waited(1, 5), 3);
        Tester.law(x, 0, "n(l=5&!s=3)");
        test.due("18 who may", x.waited(8, 5), 0);
        test.due("18 who may not", x.waited(63 - 8, 5), -2);
        Tester.law(x, 0, "n(l=5&!(s=3&r=4))");
        test.due("18 behind 4", x.waited(24, 5), 1);
        test.due("18 4 is not there", x.waited(9, 5), -2);
        x.colour(4, 2);
        x.colour(0, 3);
        Tester.law(x, 0, "n(l=5&!(c=3&d=2))");
        test.due("18 colours", x.waited(17, 5), 1);
        Tester.law(x, 0, "n(l=5&!(a=2&b=7))");
        test.due("18 a and b", x.waited(17, 5), 2);
        Tester.thing(x, 9, "aaa");
        Tester.law(x, 0, "n(t=0&l=3);n(t=9&!a=4)");
        test.due("18 things", x.waited(1, 3), 1);
        Tester.law(x, 0, "n(0=0)");
        test.due("18 nothing may be said", x.waited(63, 1), -2);
        int[][] wrong = {{0, 1}, {-1, 1}, {64, 1}, {LOW, 1}, {1, 0}, {1, 25}, {1, -1}, {1, LOW}, {1, HIGH}};
        for (int[] w : wrong) {
            test.due("18 no such ones", x.waited(w[0], w[1]), -1);
        }
        test.due("18 says nothing", x.count(0), 1);
    }

    private static void rounds() {
        NoEcho x = new NoEcho();
        Tester.thing(x, 3, "a|bb|ccc");
        rounded(x, 3, 1, 1);
        Tester.law(x, 0, "n(l=a)");
        rounded(x, 3, 1, 2);
        Tester.law(x, 0, "n(l=a|l=b)");
        rounded(x, 3, 1, 2, 3, 1, 2, 3);
        Tester.law(x, 0, "n(l<a+1)");
        rounded(x, 3);
        Tester.thing(x, 3, "a|bb|ccc|dddd");
        Tester.law(x, 0, "n(l=a|l=b)");
        rounded(x, 3, 1, 2, 3, 4);
        Tester.law(x, 0, "n(s=0&l<3);n(s=1&l>2)");
        rounded(x, 3, 3, 1);
        x.colour(1, 2);
        Tester.law(x, 0, "n(c=2&l<3);n(d=2&!l=4)");
        rounded(x, 3, 4, 3);
        Tester.law(x, 0, "n(r=1&l<3);n(r=0&l<4)");
        rounded(x, 3, 3, 4);
        // the round begins after itself, whatever the talk is, and k is as it is now
        x.say(5, 3, 4);
        Tester.law(x, 0, "n(a=4&!l=1);n(a=0);n(r=5)");
        rounded(x, 3, 1, 1);
        Tester.law(x, 0, "n(!k=1)");
        rounded(x, 3, 1, 1);
        Tester.law(x, 0, "n(k=1)");
        rounded(x, 3);
        // all lengths, and rows that come round after five or ten only
        Tester.thing(x, 3, "a+");
        Tester.law(x, 0, "n(!l%5=[a+1]%5)");
        rounded(x, 3);
        Tester.law(x, 0, "n(!l%5=[b+1]%5)");
        rounded(x, 3);
        Tester.law(x, 0, "n(!l%3=[b+1]%3)");
        rounded(x, 3, 1, 1, 2, 2, 3, 3);
        Tester.law(x, 0, "n(l<b+1)");
        rounded(x, 3);
        Tester.thing(x, 3, "a|bb|ccc|a9a9a6");
        Tester.law(x, 0, "n(l=a|l=b)");
        rounded(x, 3, 1, 2, 3, 24);
        Tester.thing(x, 3, "a");
        Tester.law(x, 0, "n(l=a)");
        rounded(x, 3);
        rounded(x, 0);
        int[][] wrong = {{-1, -1}, {12, -1}, {LOW, 0}, {3, -2}, {3, 6}, {3, HIGH}, {3, LOW}};
        for (int[] w : wrong) {
            test.due("19 no such ones", x.round(w[0], w[1]), -3);
        }
        test.due("19 says nothing", x.count(0), 1);
    }

    private static void rounded(NoEcho x, int t, int... row) {
        test.due("19 how many", x.round(t, -1), row.length == 0 ? -2 : row.length);
        for (int i = 0; i < 6; i++) {
            int due = row.length == 0 ? -2 : i < row.length ? row[i] : -3;
            test.due("19 place " + i, x.round(t, i), due);
        }
    }

    private static void seedsAndDraws() {
        NoEcho x = new NoEcho();
        test.due("20 lowest", x.seed(0), true);
        test.due("20 X", x.count(5), 0);
        test.due("20 highest", x.seed(65535), true);
        test.due("20 X, too", x.count(5), 65535);
        test.due("20 below", x.seed(-1), false);
        test.due("20 above", x.seed(65536), false);
        test.due("20 stays", x.count(5), 65535);
        test.due("21 nothing can be said", x.draw(3), 0);
        int seed = 65535;
        for (int i = 0; i < 3; i++) {
            seed = (int) ((25173L * seed + 13849) % 65536);
        }
        test.due("21 X goes on", x.count(5), seed);
        test.due("21 n 0", x.draw(0), -1);
        test.due("21 n 21", x.draw(21), -1);
        test.due("21 n lowest", x.draw(LOW), -1);
        test.due("21 X stays", x.count(5), seed);
        for (int t = 0; t < 12; t += 2) {
            Tester.thing(x, t, "(a|bb)+");
        }
        Tester.law(x, 0, "n(l=a);n(l%5=s%5)");
        x.seed(77);
        seed = 77;
        int said = 0;
        int drawn = x.draw(20);
        int last = 0;
        for (int i = 0; i < 20; i++) {
            seed = (int) ((25173L * seed + 13849) % 65536);
            int s = seed % 6;
            int t = seed / 6 % 12;
            int[] may = new int[24];
            int many = 0;
            for (int l = 1; l <= 24 && t % 2 == 0; l++) {
                if (l != last && l % 5 != s % 5) {
                    may[many++] = l;
                }
            }
            if (many > 0) {
                last = may[seed / 72 % many];
                test.due("21 speaker", x.said(said, 0), s);
                test.due("21 thing", x.said(said, 1), t);
                test.due("21 length", x.said(said, 2), last);
                said++;
            }
        }
        test.due("21 drawn", drawn, said);
        test.due("21 sentences", x.count(0), said);
        test.due("21 X", x.count(5), seed);
    }

    private static void drawLimit() {
        NoEcho x = new NoEcho();
        for (int t = 0; t < 12; t++) {
            Tester.thing(x, t, "a");
        }
        for (int i = 0; i < 195; i++) {
            x.say(0, 0, 1);
        }
        test.due("21 none beyond 200", x.draw(20), 5);
        test.due("21 200", x.count(0), 200);
        int seed = 1;
        for (int i = 0; i < 20; i++) {
            seed = (int) ((25173L * seed + 13849) % 65536);
        }
        test.due("21 X goes on beyond 200", x.count(5), seed);
        test.due("21 none at 200", x.draw(1), 0);
    }

    private static void keepsAndUndoes() {
        NoEcho x = new NoEcho();
        test.due("23 none was kept", x.undo(), false);
        Tester.thing(x, 0, "a|bb");
        x.say(1, 0, 2);
        x.colour(2, 3);
        x.seed(44);
        test.due("22 keep", x.keep(), 1);
        x.say(2, 0, 1);
        x.colour(2, 1);
        x.seed(45);
        Tester.thing(x, 0, "ccc");
        Tester.law(x, 0, "n(l=a)");
        x.feed(1, 2, 3, 4, 5);
        test.due("23 undo", x.undo(), true);
        test.due("23 talk", x.count(0), 1);
        test.due("23 words", x.count(1), 2);
        test.due("23 sentence", x.said(0, 0), 1);
        test.due("23 no second", x.said(1, 0), -1);
        test.due("23 colour", x.count(12), 3);
        test.due("23 X", x.count(5), 44);
        test.due("23 things stay", x.lengths(0), 8);
        test.due("23 laws stay", x.count(2), 1);
        test.due("23 the tape stays", x.count(4), 20);
        x.say(3, 0, 3);
        test.due("23 again", x.undo(), true);
        test.due("23 talk again", x.count(0), 1);
        x.say(3, 0, 3);
        test.due("22 kept last", x.keep(), 2);
        test.due("23 as kept last", x.undo(), true);
        test.due("23 two", x.count(0), 2);
        test.due("23 said by 3", x.count(23), 1);
        NoEcho y = new NoEcho();
        test.due("22 an empty talk", y.keep(), 0);
        Tester.thing(y, 0, "a");
        y.say(0, 0, 1);
        test.due("23 back to nothing", y.undo(), true);
        test.due("23 nothing", y.count(0), 0);
        test.due("23 last length", y.count(7), 0);
    }

    private static void checks() {
        NoEcho x = new NoEcho();
        Tester.thing(x, 0, "a+");
        test.due("24 n 0 of nothing", x.check(0), -1);
        for (int l = 1; l <= 24; l++) {
            x.say(0, 0, l);
        }
        x.feed(22, 23, 24, 0, 0);
        test.due("24 right", x.check(3), -1);
        test.due("24 tape", x.count(4), 0);
        x.feed(22, 22, 23, 0, 0);
        test.due("24 the first that is not so", x.check(3), 1);
        test.due("24 tape is empty", x.count(4), 0);
        x.feed(21, 23, 24, 0, 0);
        test.due("24 the eldest", x.check(3), 0);
        x.feed(0x01000016, 23, 24, 0, 0);
        test.due("24 all four bytes", x.check(3), 0);
        x.feed(-22, 23, 24, 0, 0);
        test.due("24 n -1", x.check(-1), -2);
        test.due("24 n 21", x.check(21), -2);
        test.due("24 n far", x.check(HIGH), -2);
        test.due("24 n wraps", x.check(0x40000001), -2);
        test.due("24 not so many", x.check(6), -2);
        test.due("24 tape stays", x.count(4), 20);
        test.due("24 n 0 is right", x.check(0), -1);
        test.due("24 n 0 empties", x.count(4), 0);
        for (int l = 5; l <= 24; l += 5) {
            x.feed(l, l + 1, l + 2, l + 3, l + 4);
        }
        test.due("24 twenty", x.check(20), -1);
        NoEcho y = new NoEcho();
        Tester.thing(y, 0, "a");
        y.say(0, 0, 1);
        y.feed(1, 1, 0, 0, 0);
        test.due("24 more than there are", y.check(2), -2);
        test.due("24 the tape stays", y.count(4), 20);
        test.due("24 one", y.check(1), -1);
    }

    private static void counts() {
        NoEcho x = new NoEcho();
        Tester.thing(x, 0, "a|bb|ccc");
        Tester.thing(x, 11, "a");
        Tester.thing(x, 4, "a9a9a9");
        Tester.law(x, 0, "n(l=9)");
        Tester.law(x, 1, "n(l=9);p4(l=1)");
        x.say(2, 0, 3);
        test.due("25 the one ahead is not there", x.count(8), 0);
        x.say(2, 0, 2);
        x.say(5, 11, 1);
        x.colour(4, 2);
        x.feed(0, 0, 0, 0, 0);
        x.seed(9);
        int[] due = {3, 6, 1, 2, 20, 9, bits(0, 11), 1, 2, -1, 0, 0, 0, 0, 2, 0, -1, -1, -1, -1, 0, 0, 2, 0, 0, 1, -1};
        for (int what = 0; what < due.length; what++) {
            test.due("25 count " + what, x.count(what), due[what]);
        }
        test.due("25 below", x.count(-1), -1);
        test.due("25 lowest", x.count(LOW), -1);
        test.due("25 highest", x.count(HIGH), -1);
    }

    private static int bits(int... places) {
        int bits = 0;
        for (int place : places) {
            bits |= 1 << place;
        }
        return bits;
    }

    private static int even() {
        int bits = 0;
        for (int l = 2; l <= 24; l += 2) {
            bits |= 1 << l;
        }
        return bits;
    }

    private static String clauses(int n) {
        StringBuilder text = new StringBuilder();
        for (int i = 0; i < n; i++) {
            text.append(i == 0 ? "" : ";").append("n(l=a)");
        }
        return text.toString();
    }

    /** A law of 200 bytes: as many numbers and steps as a text can ask for. */
    private static String longest() {
        StringBuilder text = new StringBuilder("n(1");
        while (text.length() < 197) {
            text.append("+1");
        }
        return text.append("=9)").toString();
    }
}
