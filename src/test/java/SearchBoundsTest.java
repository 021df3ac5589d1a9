import java.io.IOException;

/** The sentences that bind searches and their runs: promises 12 to 14, each at the edge that it names. */
public final class SearchBoundsTest {
    private static final int NONE = SignalHouse.NONE;
    private static final int MIN = Integer.MIN_VALUE;
    private static final int MAX = Integer.MAX_VALUE;
    private static final int STATES = -2;
    private static final int[] WRONG_MOST = {0, 301, -1, -300, 302, 1 << 16, MIN, MAX};
    private static Sentences doc;

    public static void main(String[] args) throws IOException {
        doc = new Sentences();
        searchedInputs();
        most();
        sought();
        oneMoreState();
        searchRefused();
        order();
        runThatIsFound();
        alike();
        failing();
        differMost();
        differRefused();
        latest();
        runs();
        manyCalls();
        doc.end(12, 13, 14);
    }

    /**
     * A counter whose 297 states come one behind the other, behind so many more; z is there when it begins
     * anew and a is there. With two more it has 300 states, and each one is a tick further on.
     */
    private static String counter(char name, int more, String end) {
        return name + "(a)pqrsz{" + "1;".repeat(more) + "(^p|*(&p;&p;&p;!q)|*(&q;&q;&q;!r)|*(&r;&r;&r;!s)|*("
            + "&s;".repeat(11) + end + "))}";
    }

    private static void found(SignalHouse house, String call, int states, int... inputs) {
        doc.within(call + ": run(-2)", house.run(STATES), states);
        doc.within(call + ": run(NONE)", house.run(NONE), inputs.length);
        for (int i = 0; i < inputs.length; i++) {
            doc.within(call + ": run(" + i + ")", house.run(i), inputs[i]);
        }
        doc.within(call + ": run(" + inputs.length + ")", house.run(inputs.length), NONE);
    }

    private static void searchedInputs() {
        doc.hold(12, "SEARCHES the k-th PROGRAM (INPUTS: 4 at most)");
        String letters = "abcdefghijklmnopqrstuvwxy";
        for (int n = 0; n <= 25; n++) {
            SignalHouse house = Check.house("A(" + letters.substring(0, n) + ")z{1;" + (n == 0 ? "!z" : "?" + letters.charAt(n - 1) + "(!z)(0)") + "}");
            if (n <= 4) {
                doc.within(n + " INPUTS", house.search(0, 0, 300), 1);
                found(house, n + " INPUTS", n < 1 ? 2 : 3, 0, n == 0 ? 0 : 1 << (n - 1));
                doc.within(n + " INPUTS, a tick that FAILS", house.search(0, NONE, 300), 0);
            } else {
                doc.beyond(n + " INPUTS", house.search(0, 0, 300), NONE);
                doc.beyond(n + " INPUTS, a tick that FAILS", house.search(0, NONE, 300), NONE);
                doc.beyond("run(NONE)", house.run(NONE), NONE);
            }
        }
    }

    private static void most() {
        doc.hold(12, "finding no more than most (1 .. 300) STATES");
        SignalHouse house = Check.house("A()x{*(1)}B()x{!x}C()x{1;1}" + counter('D', 2, "?a(!z)(0)"));
        doc.within("search for 1, the first tick", house.search(1, 0, 1), 1);
        found(house, "search for 1, the first tick", 1, 0);
        doc.within("search for 2", house.search(0, 0, 2), 0);
        found(house, "search for 2", 2);
        doc.within("search for 300", house.search(3, NONE, 300), 0);
        found(house, "search for 300", 300);
        doc.beyond("search for 299", house.search(3, NONE, 299), 2);
        found(house, "search for 299", 299);
        for (int most : WRONG_MOST) {
            doc.beyond("search for " + most, house.search(0, 0, most), NONE);
        }
        SignalHouse more = Check.house(counter('A', 3, "?a(!z)(0)"));
        doc.beyond("301 STATES", more.search(0, NONE, 300), 2);
        found(more, "301 STATES", 300);
        SignalHouse wide = Check.house("A(abcd)x{(&a|&b|&c|&d);1;1;1;1;(*(1;1;1;1;1)|*(1;1;1;1;1;1;1)|*(1;1;1;1;1;1;1;1))}");
        doc.within("300 STATES by four INPUTS", wide.search(0, 0, 300), 0);
        found(wide, "300 STATES by four INPUTS", 300);
        doc.beyond("one fewer", wide.search(0, 0, 299), 2);
        found(wide, "one fewer", 299);
    }

    private static void sought() {
        doc.hold(12, "for a tick that FAILS (what NONE), or in which OUTPUT what is there: 1 there is one, 0 none");
        SignalHouse house = Check.house("A(a)xyz{1;?a(!z)(0)}B(a)x{1;?a(?x(0)(!x))(0)}C(a)x{1;?a(@s(?s(0)(!s)))(0)}");
        doc.within("OUTPUT 2", house.search(0, 2, 9), 1);
        found(house, "OUTPUT 2", 3, 0, 1);
        doc.beyond("OUTPUT 1", house.search(0, 1, 9), 0);
        found(house, "OUTPUT 1", 3);
        doc.beyond("OUTPUT 0", house.search(0, 0, 9), 0);
        doc.beyond("a tick that FAILS, of A", house.search(0, NONE, 9), 0);
        doc.within("a tick that FAILS with 1", house.search(1, NONE, 9), 1);
        found(house, "a tick that FAILS with 1", 3, 0, 1);
        doc.within("a tick that FAILS with 2", house.search(2, NONE, 9), 1);
        found(house, "a tick that FAILS with 2", 3, 0, 1);
        doc.beyond("no OUTPUT of one that FAILS", house.search(1, 0, 9), 0);
        SignalHouse all = Check.house("A()abcdefghijklmnopqrstuvwxyz{!z}");
        doc.within("OUTPUT 25", all.search(0, 25, 9), 1);
        doc.beyond("OUTPUT 24", all.search(0, 24, 9), 0);
        doc.beyond("OUTPUT 26", all.search(0, 26, 9), NONE);
    }

    private static void oneMoreState() {
        doc.hold(12, "2 as soon as one more STATE would be found (what FAILS leads to none)");
        SignalHouse house = Check.house("A()x{1;!x;1}B(a)x{?a(!x)(1)}C(a)x{1;?a(!x)(1)}D(a)x{1;?a(?x(0)(!x))(0)}");
        doc.within("the tick itself leads to one more", house.search(0, 0, 2), 1);
        found(house, "the tick itself leads to one more", 2, 0, 0);
        doc.beyond("one fewer", house.search(0, 0, 1), 2);
        found(house, "one fewer", 1);
        doc.beyond("the set of INPUTS behind it is not tried", house.search(1, 0, 1), 2);
        found(house, "the set of INPUTS behind it is not tried", 1);
        doc.within("it is, with one more", house.search(1, 0, 2), 1);
        found(house, "it is, with one more", 2, 1);
        doc.beyond("later", house.search(2, 0, 2), 2);
        found(house, "later", 2);
        doc.within("later, with one more", house.search(2, 0, 3), 1);
        found(house, "later, with one more", 3, 0, 1);
        doc.within("what FAILS leads to none", house.search(3, 0, 3), 0);
        found(house, "what FAILS leads to none", 3);
        doc.beyond("without the one that is done", house.search(3, 0, 2), 2);
        SignalHouse fails = Check.house("A()x{1;?x(0)(!x)}B()x{?x(0)(!x)}");
        doc.within("all ticks FAIL", fails.search(1, 0, 1), 0);
        found(fails, "all ticks FAIL", 1);
        doc.within("two STATES", fails.search(0, 0, 2), 0);
        found(fails, "two STATES", 2);
        SignalHouse again = Check.house("A(ab)x{*(1)}");
        doc.within("one that was found is not one more", again.search(0, 0, 2), 0);
        found(again, "one that was found is not one more", 2);
        SignalHouse done = Check.house("A(a)x{?a(!x)(0)}");
        doc.beyond("one that is done is a STATE", done.search(0, 0, 1), 2);
        doc.within("one that is done", done.search(0, 0, 2), 1);
    }

    private static void searchRefused() {
        doc.hold(12, "NONE, changing nothing, if there is none such, or another most.");
        SignalHouse house = Check.house("A(a)xy{&a;!x}B(abcde)x{0}");
        house.make(0);
        doc.within("search(0, 0, 300)", house.search(0, 0, 300), 1);
        for (int most : WRONG_MOST) {
            doc.beyond("search(0, 1, " + most + ")", house.search(0, 1, most), NONE);
        }
        for (int k : new int[] {-1, 2, 5, 6, MIN, MAX}) {
            doc.beyond("search(" + k + ", 0, 9)", house.search(k, 0, 9), NONE);
            doc.beyond("search(" + k + ", NONE, 9)", house.search(k, NONE, 9), NONE);
        }
        for (int what : new int[] {-2, 2, -3, 3, 31, 32, 33, MIN, MAX}) {
            doc.beyond("search(0, " + what + ", 9)", house.search(0, what, 9), NONE);
        }
        doc.beyond("search(1, 0, 9)", house.search(1, 0, 9), NONE);
        found(house, "changing nothing", 2, 0, 1);
        doc.within("search(0, 1, 1)", house.search(0, 1, 1), 2);
        doc.within("search(0, NONE, 1)", house.search(0, NONE, 1), 2);
        doc.within("the INSTANCE stays", house.stands(0), -2);
    }

    private static void order() {
        doc.hold(12, "those found first are looked at first, with all sets of INPUTS (the first one the lowest bit), 0, 1, ..");
        SignalHouse sets = Check.house("A(abcd)x{?a(0)(?b(0)(?c(0)(?d(!x)(0))))}B(abcd)x{?a(?b(!x)(0))(?c(!x)(0))}");
        doc.within("the last one alone", sets.search(0, 0, 9), 1);
        found(sets, "the last one alone", 2, 8);
        doc.within("3 is ahead of 4", sets.search(1, 0, 9), 1);
        found(sets, "3 is ahead of 4", 2, 3);
        SignalHouse states = Check.house("A(a)x{?a(1;!x)(1;1;!x)}B(a)x{?a(1;1;!x)(1;!x)}C(ab)x{?a(1;?b(!x)(0))(1;?a(!x)(0))}");
        doc.within("the shorter way", states.search(0, 0, 9), 1);
        found(states, "the shorter way", 4, 1, 0);
        doc.within("the shorter way first", states.search(1, 0, 9), 1);
        found(states, "the shorter way first", 3, 0, 0);
        doc.within("found first, looked at first", states.search(2, 0, 9), 1);
        found(states, "found first, looked at first", 4, 0, 1);
        doc.beyond("not all of them", states.search(2, 0, 2), 2);
        SignalHouse all = Check.house("A(abcd)x{?a(?b(?c(?d(!x)(0))(0))(0))(0)}");
        doc.within("the last set", all.search(0, 0, 9), 1);
        found(all, "the last set", 2, 15);
        doc.beyond("no set behind it", all.search(0, NONE, 9), 0);
    }

    private static void runThatIsFound() {
        doc.hold(12, "The first tick of the kind that is sought ends it: the RUN are the INPUTS by which one came there first, that one too.");
        SignalHouse same = Check.house("A(ab)x{$T(*(?a(.T)(0);1));1;?b(!x)(0)}B(a)x{!x}");
        doc.within("two ways", same.search(0, 0, 9), 1);
        found(same, "two ways", 4, 1, 2);
        doc.within("the first tick", same.search(1, 0, 9), 1);
        found(same, "the first tick", 1, 0);
        SignalHouse longest = Check.house(counter('A', 2, "?a(!z)(0)") + counter('B', 3, "?a(!z)(0)"));
        doc.within("300 ticks", longest.search(0, 4, 300), 1);
        int[] inputs = new int[300];
        inputs[299] = 1;
        found(longest, "300 ticks", 300, inputs);
        doc.beyond("one STATE fewer", longest.search(0, 4, 299), 2);
        found(longest, "one STATE fewer", 299);
        doc.beyond("301 ticks", longest.search(1, 4, 300), 2);
        found(longest, "301 ticks", 300);
    }

    private static void alike() {
        doc.hold(13, "two PROGRAMS with as many INPUTS (4 at most) and OUTPUTS, fed alike, side by side");
        SignalHouse four = Check.house("A(abcd)x{&d;!x}B(efgh)y{1;&h;!y}C(abcde)x{0}D(abcde)x{0}E(abc)x{0}F(abcd)xy{0}");
        doc.within("four INPUTS", four.differ(0, 1, 300), 1);
        found(four, "four INPUTS", 3, 0, 8);
        doc.within("with itself", four.differ(0, 0, 300), 0);
        found(four, "with itself", 3);
        doc.beyond("five INPUTS", four.differ(2, 3, 300), NONE);
        doc.beyond("five INPUTS, with itself", four.differ(2, 2, 300), NONE);
        doc.beyond("four and five", four.differ(0, 2, 300), NONE);
        doc.beyond("five and four", four.differ(2, 0, 300), NONE);
        doc.beyond("four and three", four.differ(0, 4, 300), NONE);
        doc.beyond("three and four", four.differ(4, 0, 300), NONE);
        doc.beyond("one OUTPUT and two", four.differ(0, 5, 300), NONE);
        doc.beyond("two OUTPUTS and one", four.differ(5, 0, 300), NONE);
        doc.within("the RUN is the latter one's", four.run(STATES), 3);
        SignalHouse none = Check.house("A()x{0}B()y{0;0}C()abcdefghijklmnopqrstuvwxyz{!z}D()zyxwvutsrqponmlkjihgfedcba{!a}"
            + "E()zyxwvutsrqponmlkjihgfedcba{!b}");
        doc.within("no INPUTS", none.differ(0, 1, 2), 0);
        doc.within("26 OUTPUTS", none.differ(2, 3, 2), 0);
        doc.beyond("not the same one of them", none.differ(2, 4, 2), 1);
    }

    private static void failing() {
        doc.hold(13, "for a tick in which their OUTPUTS are not the same sets, or one FAILS and the other one not "
            + "(if both do, nothing comes of it): 1, 0 or 2.");
        SignalHouse house = Check.house("A(a)x{?a(?x(0)(!x))(1)}B(a)x{1}C(a)x{?a(@s(?s(0)(!s)))(1)}D(a)x{?a(!x)(1)}E(a)x{?a(1)(!x)}");
        doc.beyond("the first one FAILS", house.differ(0, 1, 9), 1);
        found(house, "the first one FAILS", 2, 1);
        doc.beyond("the other one FAILS", house.differ(1, 0, 9), 1);
        found(house, "the other one FAILS", 2, 1);
        doc.beyond("the other one FAILS with 2", house.differ(1, 2, 9), 1);
        found(house, "the other one FAILS with 2", 2, 1);
        doc.within("both do", house.differ(0, 2, 9), 0);
        found(house, "both do", 3);
        doc.within("both do, with three STATES at most", house.differ(0, 0, 3), 0);
        doc.within("both do, with two at most", house.differ(0, 0, 2), 2);
        found(house, "both do, with two at most", 2);
        doc.beyond("FAILS, and is there", house.differ(3, 0, 9), 1);
        found(house, "FAILS, and is there", 2, 1);
        doc.beyond("not the same sets at once", house.differ(3, 4, 1), 1);
        found(house, "not the same sets at once", 1, 0);
        doc.beyond("not the same sets later", house.differ(1, 3, 9), 1);
        found(house, "not the same sets later", 2, 1);
        SignalHouse sets = Check.house("A()xy{!x}B()xy{!y}C()xy{0}D()xy{!y;0}");
        doc.beyond("one each, not the same", sets.differ(0, 1, 9), 1);
        doc.beyond("one and none", sets.differ(1, 2, 9), 1);
        doc.beyond("none and one", sets.differ(2, 1, 9), 1);
        doc.within("the same", sets.differ(1, 3, 9), 0);
    }

    private static void differMost() {
        doc.hold(13, "SEARCHES likewise two PROGRAMS");
        String thirteen = "*(" + "1;".repeat(12) + "1)";
        String more = "*(" + "1;".repeat(22) + "1)";
        SignalHouse pairs = Check.house("A()x{" + thirteen + "}B()x{" + more + "}C()x{1;" + thirteen + "}");
        doc.within("300 pairs", pairs.differ(0, 1, 300), 0);
        found(pairs, "300 pairs", 300);
        doc.beyond("one fewer", pairs.differ(0, 1, 299), 2);
        found(pairs, "one fewer", 299);
        doc.beyond("301 pairs", pairs.differ(2, 1, 300), 2);
        found(pairs, "301 pairs", 300);
        doc.beyond("one pair", pairs.differ(0, 1, 1), 2);
        found(pairs, "one pair", 1);
        SignalHouse longest = Check.house(counter('A', 2, "?a(!z)(0)") + counter('B', 2, "0"));
        doc.within("300 ticks", longest.differ(0, 1, 300), 1);
        int[] inputs = new int[300];
        inputs[299] = 1;
        found(longest, "300 ticks", 300, inputs);
        doc.beyond("one STATE fewer", longest.differ(0, 1, 299), 2);
        found(longest, "one STATE fewer", 299);
        SignalHouse leads = Check.house("A()x{1;!x;1}B()x{1;1}");
        doc.within("the tick itself leads to one more", leads.differ(0, 1, 2), 1);
        found(leads, "the tick itself leads to one more", 2, 0, 0);
    }

    private static void differRefused() {
        doc.hold(13, "NONE if there are none such, or another most.");
        SignalHouse house = Check.house("A(a)x{0}B(a)x{1}");
        doc.within("differ(0, 1, 300)", house.differ(0, 1, 300), 0);
        for (int most : WRONG_MOST) {
            doc.beyond("differ(0, 1, " + most + ")", house.differ(0, 1, most), NONE);
        }
        for (int k : new int[] {-1, 2, 5, 6, MIN, MAX}) {
            doc.beyond("differ(" + k + ", 0, 9)", house.differ(k, 0, 9), NONE);
            doc.beyond("differ(0, " + k + ", 9)", house.differ(0, k, 9), NONE);
            doc.beyond("differ(" + k + ", " + k + ", 9)", house.differ(k, k, 9), NONE);
        }
        found(house, "the RUN stays", 3);
        doc.within("differ(1, 0, 1)", house.differ(1, 0, 1), 2);
    }

    private static void latest() {
        doc.hold(14, "Of the latest search() or differ() that told 0, 1 or 2");
        SignalHouse house = new SignalHouse();
        for (int tick : new int[] {NONE, STATES, 0, 1, -3}) {
            doc.beyond("run(" + tick + ") of a new object", house.run(tick), NONE);
        }
        Check.load(house, "A(a)x{&a;!x}B(a)x{0}C(abcde)x{0}");
        doc.beyond("a search that told NONE", house.search(2, 0, 9), NONE);
        doc.beyond("run(NONE)", house.run(NONE), NONE);
        doc.beyond("a differ that told NONE", house.differ(0, 2, 9), NONE);
        doc.beyond("run(-2)", house.run(STATES), NONE);
        house.search(0, 0, 9);
        found(house, "search() that told 1", 2, 0, 1);
        house.differ(0, 1, 9);
        found(house, "differ() that told 1", 2, 0, 1);
        house.search(0, NONE, 9);
        found(house, "search() that told 0", 3);
        house.search(0, NONE, 2);
        found(house, "search() that told 2", 2);
        house.differ(1, 1, 9);
        found(house, "differ() that told 0", 2);
        house.search(0, 0, 9);
        house.search(0, 1, 9);
        house.differ(0, 1, 301);
        found(house, "the ones that told NONE do not count", 2, 0, 1);
        Check.load(house, "A(");
        found(house, "behind a FAULT", 2, 0, 1);
        Check.load(house, "A()x{0}");
        found(house, "behind a MODULE", 2, 0, 1);
    }

    private static void runs() {
        doc.hold(14, "tick of the RUN: its set of INPUTS; tick NONE: how many ticks it has (0 unless it told 1); "
            + "tick -2: how many STATES were found. NONE if there is none such.");
        SignalHouse house = Check.house("A(ab)x{1;?b(1;?a(!x)(0))(0)}B()x{1}" + counter('C', 2, "?a(!z)(0)"));
        doc.within("it told 1", house.search(0, 0, 9), 1);
        found(house, "it told 1", 4, 0, 2, 1);
        for (int tick : new int[] {3, 4, -3, -4, 299, 300, 301, MIN, MAX}) {
            doc.beyond("run(" + tick + ")", house.run(tick), NONE);
        }
        doc.within("it told 0", house.search(1, 0, 9), 0);
        found(house, "it told 0", 3);
        doc.beyond("run(0) when it told 0", house.run(0), NONE);
        doc.within("it told 2", house.search(1, 0, 2), 2);
        found(house, "it told 2", 2);
        doc.beyond("run(0) when it told 2", house.run(0), NONE);
        doc.within("it told 1 behind 300 ticks", house.search(2, 4, 300), 1);
        doc.within("run(299)", house.run(299), 1);
        doc.beyond("run(300)", house.run(300), NONE);
        doc.beyond("run(301)", house.run(301), NONE);
        doc.within("a short one again", house.search(0, 0, 9), 1);
        doc.beyond("run(299)", house.run(299), NONE);
        doc.beyond("run(3)", house.run(3), NONE);
    }

    private static void manyCalls() {
        doc.hold(12, "An object is used for at most 512 calls after it has been made; what later calls answer is free.");
        SignalHouse house = new SignalHouse();
        String text = counter('A', 2, "?a(!z)(0)");
        Check.load(house, text);
        int calls = (text.length() + 7) / 8 + 1;
        for (int call = calls + 1; call <= 511; call++) {
            doc.within("call " + call, house.search(0, 0, 1), 2);
        }
        doc.within("call 512", house.search(0, 4, 300), 1);
        int thrown = 0;
        try {
            house.run(299);
            house.search(0, 0, 1);
        } catch (RuntimeException e) {
            thrown++;
        }
        doc.beyond("calls 513 and 514 answer something", thrown, 0);
        SignalHouse texts = new SignalHouse();
        String longest = "A(a)x{" + "0;".repeat(246) + "0}";
        for (int i = 0; i < 8; i++) {
            doc.within("module() is call " + 64 * (i + 1), Check.load(texts, longest), 1);
        }
    }
}
