/**
 * Laws that let so little follow that a search which takes one state for another goes wrong. Each of these was found
 * by trying many against searches that were broken on purpose; the oracle tells what is due.
 */
public final class SparseLawsTest {
    /** Patterns of things 0 and 1, and what law 0 forbids. */
    private static final String[][] CASES = {
        {"[a]9", "a+", "[l*15+a*21+b*6+s*7]%23>3"},
        {"(a|b4)2|c", "a|bb|ccc|dddd", "[l*18+a*29+b*2]%11>2"},
        {"a|bb|ccc|dddd", "a|[b]6", "[l*18+a*22+b*9+s*8]%5>1"},
        {"a|bb|ccc|dddd", "a|bb|ccc", "[l*6+a*29+b*28+s*6+l*a*6]%11>3"},
        {"[a]9", "a|[b]6", "[l*3+a*15+b*1+t*3]%29>3"},
        {"a|bb|ccc", "a|bb|ccc|dddd", "[l*11+a*17+b*7+s*3+t*2]%5>1"},
        {"[a]9", "a|bb|ccc|dddd", "[l*11+a*0+b*12]%29>3"},
        {"a|[b]6", "[a]9", "[l*16+a*27+b*2+s*2]%13>2"},
        {"a|bb|ccc", "a|bb|ccc", "[l*23+a*27+b*23+s*1+t*3]%13>3"},
        {"[a]9", "a|bb|ccc", "[l*16+a*14+b*2+t*3+l*a*2]%13>1"},
        {"a|[b]6", "a|bb|ccc", "[l*10+a*24+b*3+s*3]%23>3"},
        {"[a]9", "a|bb|ccc|dddd", "[l*3+a*9+b*29+l*a*3]%19>2"},
        {"[a]9", "a+", "[l*1+a*14+b*23+s*8]%19>2"},
        {"a|bb|ccc", "a+", "[l*2+a*12+b*16+s*4+t*1]%5>1"},
        {"a|[b]6", "(a|b4)2|c", "[l*26+a*26+b*4]%19>3"},
        {"a+", "a+", "[l*3+a*12+b*2+t*2+l*a*4]%23>0"},
        {"a+", "(a|b4)2|c", "[l*8+a*26+b*1+t*6+l*a*2]%5>0"},
        {"a+", "a|bb|ccc", "[l*19+a*22+b*29+t*8+l*a*6]%5>1"},
        {"a+", "a|[b]6", "[l*3+a*14+b*10+s*3]%29>3"},
        {"a|[b]6", "a|[b]6", "[l*11+a*5+b*23]%17>0"}};

    /** Patterns of things 0 and 1, and law 0. */
    private static final String[][] WAITS = {
        {"[a]5b", "a2|b7", "n(l>a+1)"},
        {"a|bb|ccc|dddd", "a5|b6", "n(l>a+1);n(!s=[r+1]%6&k>0)"},
        {"a|bb|ccc|dddd", "a5|b6", "n(l>a+1);n(c=d&k>0)"},
        {"[a]7b", "a", "n(l>1&!l=a+b)"},
        {"[a]7b", "a", "n(l>2&!(l=a+s|l=b+r))"},
        {"[a]7b", "a3", "n([l*3+a*5+b*7+t*2+s*4+r*3+k]%11>2)"},
        {"[a]7b", "a3", "n([l*5+a*2+s*3+d]%13>2)"},
        {"[a]7b", "a3", "n([l*7+b*3+c*3+r*2+t]%13>2)"},
        {"[a]7b", "a3", "n([l*2+a*7+b*3]%17>2)"},
        {"[a]7b", "a3", "n([l*2+a*7+r*3+k*5]%17>3)"}};

    public static void main(String[] args) {
        Tester test = new Tester("SparseLawsTest");
        for (String[] one : CASES) {
            String law = "n(" + one[2] + ")";
            NoEcho x = new NoEcho();
            Oracle y = new Oracle();
            test.begin(law);
            for (int t = 0; t < 2; t++) {
                test.due("thing", Tester.thing(x, t, one[t]), told(y, one[t]).thing(t, one[t].length()));
            }
            test.due("law", Tester.law(x, 0, law), told(y, law).law(0, law.length()));
            for (int what = -1; what < 6; what++) {
                test.due("round " + what, x.round(0, what), y.round(0, what));
            }
            for (int what = -1; what < 5; what++) {
                test.due("any talk " + what, x.anyTalk(3, 5, what), y.anyTalk(3, 5, what));
            }
            for (int n = 1; n <= 6; n++) {
                test.due("silenced", x.silenced(0, 1, 1, 2, n, 0), y.silenced(0, 1, 1, 2, n, 0));
            }
            for (int l = 1; l <= 10; l += 3) {
                test.due("waited for " + l, x.waited(3, l), y.waited(3, l));
            }
        }
        goodAheadIsNotGoodHere(test);
        longWaits(test);
        test.end();
    }

    /** Behind a three, rows that begin 0, 0 all go on; that must not be taken for an answer on 0, 1. */
    private static void goodAheadIsNotGoodHere(Tester test) {
        test.begin("any talk behind a three");
        NoEcho x = new NoEcho();
        Tester.thing(x, 0, "a");
        Tester.thing(x, 1, "bb");
        Tester.thing(x, 2, "ccc");
        Tester.law(x, 0, "n(b=1&a=2)");
        test.due("say", x.say(0, 2, 3), 1);
        test.due("not each", x.anyTalk(3, 3, -1), 0);
        int[] row = {0, 1, 0};
        for (int i = 0; i < row.length; i++) {
            test.due("place " + i, x.anyTalk(3, 3, i), row[i]);
        }
    }

    /** Waits in which what each speaker has reached must be told apart by who speaks, who spoke and both lengths. */
    private static void longWaits(Tester test) {
        for (String[] one : WAITS) {
            NoEcho x = new NoEcho();
            Oracle y = new Oracle();
            test.begin("waited by " + one[2]);
            for (int t = 0; t < 2; t++) {
                test.due("thing", Tester.thing(x, t, one[t]), told(y, one[t]).thing(t, one[t].length()));
            }
            for (int s = 0; s < 6; s++) {
                test.due("colour", x.colour(s, s % 4), y.colour(s, s % 4));
            }
            test.due("law", Tester.law(x, 0, one[2]), told(y, one[2]).law(0, one[2].length()));
            for (int speakers = 1; speakers < 64; speakers += 4) {
                for (int l = 1; l <= 8; l++) {
                    test.due(speakers + " for " + l, x.waited(speakers, l), y.waited(speakers, l));
                }
            }
        }
    }

    private static Oracle told(Oracle y, String text) {
        for (int from = 0; from < text.length(); from += 20) {
            int[] words = new int[5];
            for (int i = 0; i < 20 && from + i < text.length(); i++) {
                words[i / 4] |= text.charAt(from + i) << 24 - 8 * (i % 4);
            }
            y.feed(words);
        }
        return y;
    }
}
