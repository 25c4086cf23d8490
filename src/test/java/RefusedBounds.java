import java.util.ArrayList;
import java.util.List;

/** The sentences on refused calls and on how many calls an object is used for. */
final class RefusedBounds extends Bounds {
    private static final String TEXT = "n(l=1);n(l=2);n(l=3)";

    private interface Call {
        long on(NoEcho x);
    }

    private RefusedBounds() {
    }

    @Says(of = 0, words = "A call that is refused (NONE, false) changes nothing but the tape, where it is told.")
    static void refusedCallsChangeNothing(Tester test) {
        refusedOnes().forEach(call -> {
            NoEcho x = rich();
            test.due("refused", call.on(x), NONE);
            sameAsUntouched(test, x, rich());
        });
        NoEcho x = rich();
        test.due("no seed", x.seed(-1) || x.seed(65536) || x.seed(LOW) || x.seed(HIGH), false);
        test.due("no colour", x.colour(0, -1) || x.colour(0, 4) || x.colour(-1, 0) || x.colour(6, 0), false);
        sameAsUntouched(test, x, rich());
        NoEcho full = rich();
        NoEcho other = rich();
        for (int i = 0; i < 10; i++) {
            full.feed(1, 2, 3, 4, 5);
            other.feed(1, 2, 3, 4, 5);
        }
        test.due("no room on the tape", full.feed(6, 7, 8, 9, 10), NONE);
        sameAsUntouched(test, full, other);
    }

    private static List<Call> refusedOnes() {
        List<Call> calls = new ArrayList<>();
        for (int strange : new int[] {LOW, -1, 12, HIGH}) {
            calls.add(x -> x.thing(strange, 6));
            calls.add(x -> x.lengths(strange));
            calls.add(x -> x.law(strange, 6));
            calls.add(x -> x.may(strange, 0, 0, 1));
            calls.add(x -> x.may(0, strange, 0, 1));
            calls.add(x -> x.may(0, 0, strange, 1));
            calls.add(x -> x.ways(strange, 0, 0));
            calls.add(x -> x.ways(0, strange, 0));
            calls.add(x -> x.ways(0, 0, strange));
            calls.add(x -> x.say(strange, 0, 1));
            calls.add(x -> x.say(0, strange, 1));
            calls.add(x -> x.said(strange, 0));
            calls.add(x -> x.said(0, strange));
            calls.add(x -> x.paid(strange));
            calls.add(x -> x.judged(strange, 1));
            calls.add(x -> x.held(strange, 1, NONE));
            calls.add(x -> x.coded(strange, 1, NONE));
            calls.add(x -> x.waited(1, strange < 0 ? strange : strange + 20));
            calls.add(x -> x.waited(strange < 0 ? strange : 64, 1));
        }
        for (int strange : new int[] {LOW, -1, 0, 202, HIGH}) {
            calls.add(x -> x.thing(0, strange));
            calls.add(x -> x.law(0, strange));
            calls.add(x -> x.judged(0, strange));
            calls.add(x -> x.held(1, strange, NONE));
            calls.add(x -> x.coded(2, strange, NONE));
            calls.add(x -> x.heard(strange, NONE));
            calls.add(x -> x.draw(strange));
        }
        for (int strange : new int[] {LOW, -2, 9, 19, 26, HIGH}) {
            calls.add(x -> x.held(1, 1, strange));
            calls.add(x -> x.coded(2, 1, strange));
            calls.add(x -> x.heard(1, strange));
            calls.add(x -> x.count(strange));
        }
        // more bytes than the tape has
        calls.add(x -> x.thing(0, 21));
        calls.add(x -> x.law(0, 21));
        calls.add(x -> x.judged(0, 7));
        calls.add(x -> x.held(1, 11, NONE));
        calls.add(x -> x.coded(2, 7, NONE));
        return calls;
    }

    /** An object in which everything is told, with a text on its tape. */
    private static NoEcho rich() {
        NoEcho x = tongue("a|bb|ccc", "(ab)+", "c5");
        Tester.law(x, 0, "n(l=a);p10*l+k(l<3);p4(0=0)");
        Tester.law(x, 1, "n(l=b)");
        x.colour(0, 2);
        x.colour(5, 3);
        say(x, 5, 0, 2, 1);
        x.seed(4711);
        x.keep();
        say(x, 0, 1, 4, 24);
        x.colour(0, 1);
        x.seed(815);
        Tester.feedText(x, TEXT);
        return x;
    }

    private static void sameAsUntouched(Tester test, NoEcho x, NoEcho untouched) {
        List<Long> got = allOf(x);
        List<Long> due = allOf(untouched);
        test.due("how much is asked", got.size(), due.size());
        for (int i = 0; i < Math.min(got.size(), due.size()); i++) {
            test.due("answer " + i, got.get(i), due.get(i));
        }
    }

    /** Everything that can be asked, then what is on the tape, then what was kept. */
    private static List<Long> allOf(NoEcho x) {
        List<Long> all = new ArrayList<>();
        addState(all, x);
        all.add((long) x.law(1, 20));
        addState(all, x);
        all.add(x.undo() ? 1L : 0L);
        addState(all, x);
        all.add((long) x.draw(3));
        addState(all, x);
        return all;
    }

    private static void addState(List<Long> all, NoEcho x) {
        for (int what = 0; what <= 25; what++) {
            all.add((long) x.count(what));
        }
        for (int s = 0; s < 6; s++) {
            all.add((long) x.paid(s));
        }
        for (int t = 0; t < 12; t++) {
            all.add((long) x.lengths(t));
        }
        for (int t = 0; t < 3; t++) {
            all.add((long) x.ways(0, 0, t));
            all.add((long) x.ways(1, 5, t));
        }
        for (int i = 0; i < 5; i++) {
            for (int what = 0; what <= 3; what++) {
                all.add((long) x.said(i, what));
            }
        }
    }

    @Says(of = 0, words = "nothing but the tape, where it is told.")
    static void otherRefusalsEmptyTheTapeAlone(Tester test) {
        List<Call> calls = new ArrayList<>();
        calls.add(x -> Tester.thing(x, 0, "a|(("));
        calls.add(x -> Tester.law(x, 0, "p5(0=0);n(0=0);n"));
        calls.add(x -> Tester.judged(x, 0, 2, 0, 0, 9, 6, 0, 1));
        calls.add(x -> Tester.judged(x, 0, 2, 0, 0, 1, 0, 0, 9));
        calls.add(x -> Tester.held(x, 3, 2, 0, 0, 0, 6, 0));
        calls.add(x -> Tester.held(x, 3, 2, 0, 0, 0, 0, 5));
        calls.add(x -> Tester.coded(x, 3, 2, 0, 0, 0, 3, 0, 0, 0));
        calls.add(x -> Tester.coded(x, 3, 1, 0, 0, 5, 0));
        calls.add(x -> Tester.heard(x, 2, 0, 0, 25, 0, 1));
        calls.add(x -> Tester.heard(x, 2, 0, 0, 9, 0, 9));
        calls.add(x -> x.check(0));
        for (Call call : calls) {
            NoEcho x = rich();
            x.check(0);
            call.on(x);
            test.due("the tape is empty", x.count(4), 0);
            NoEcho untouched = rich();
            untouched.check(0);
            sameAsUntouched(test, x, untouched);
        }
    }

    @Says(of = -1, words = "An object is used for at most 512 calls after it has been made;")
    static void manyCallsAreAnswered(Tester test) {
        NoEcho x = tongue("a|bb|ccc", "a|bb");
        Tester.law(x, 0, "n(l=a|l=b)");
        // with these six calls ahead, the 512th is the last one here
        int calls = 6;
        for (int i = 0; calls < 512; i++) {
            calls++;
            int due = 0;
            long got = 0;
            switch (i % 5) {
                case 0:
                    got = x.round(0, 5);
                    due = 3;
                    break;
                case 1:
                    got = x.anyTalk(3, 4, 3);
                    due = 1;
                    break;
                case 2:
                    got = x.silenced(0, 2, 1, 2, 6, 0);
                    due = -1;
                    break;
                case 3:
                    got = x.waited(63, 3);
                    break;
                default:
                    got = x.feed(0, 0x00010001, 0, 0, 0);
                    due = 20;
                    calls++;
                    test.due("held", x.held(1, 4, NONE), 7);
                    break;
            }
            test.due("call " + calls, got, due);
        }
    }
}
