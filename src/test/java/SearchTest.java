/** Promises 12 to 14: searching one program, comparing two, and the run of the latest search. */
public final class SearchTest {
    private static final Check CHECK = new Check();
    private static final int NONE = SignalHouse.NONE;

    public static void main(String[] args) {
        outputs();
        failures();
        order();
        bounds();
        wrongSearches();
        differences();
        differencesByFailing();
        differencesBounded();
        wrongDifferences();
        runsStay();
        longestRun();
        searchesTouchNoInstance();
        CHECK.end();
    }

    private static void told(String what, SignalHouse house, int states, int... inputs) {
        CHECK.due(what + ": ticks", house.run(NONE), inputs.length);
        CHECK.due(what + ": states", house.run(-2), states);
        for (int i = 0; i < inputs.length; i++) {
            CHECK.due(what + ": run(" + i + ")", house.run(i), inputs[i]);
        }
        int[] wrong = {-3, inputs.length, inputs.length + 1, 300, 301, Integer.MIN_VALUE, Integer.MAX_VALUE};
        for (int tick : wrong) {
            CHECK.due(what + ": run(" + tick + ")", house.run(tick), NONE);
        }
    }

    private static void outputs() {
        SignalHouse house = Check.house("A(ab)xyz{&b;!y;1;?a(!x)(0)}");
        CHECK.due("x", house.search(0, 0, 50), 1);
        told("x", house, 4, 0, 2, 1);
        CHECK.due("y", house.search(0, 1, 50), 1);
        told("y", house, 2, 0, 2);
        CHECK.due("z", house.search(0, 2, 50), 0);
        told("z", house, 4);
        CHECK.due("fails", house.search(0, NONE, 50), 0);
        told("fails", house, 4);
        SignalHouse first = Check.house("A()x{!x}");
        CHECK.due("at once", first.search(0, 0, 1), 1);
        told("at once", first, 1, 0);
    }

    private static void failures() {
        SignalHouse house = Check.house("A(a)x{1;?a(?x(0)(!x))(1;!x)}B(a)x{?a(@s(?s(0)(!s)))(1)}");
        CHECK.due("a tick that fails", house.search(0, NONE, 9), 1);
        told("a tick that fails", house, 3, 0, 1);
        CHECK.due("what fails leads to none", house.search(0, 0, 9), 1);
        told("what fails leads to none", house, 3, 0, 0, 0);
        CHECK.due("with 2", house.search(1, NONE, 9), 1);
        told("with 2", house, 2, 1);
        CHECK.due("none there", house.search(1, 0, 9), 0);
        told("none there", house, 3);
    }

    private static void order() {
        SignalHouse house = Check.house("A(ab)x{1;?a(?b(!x)(1;!x))(?b(1;1;!x)(1))}");
        CHECK.due("the lowest sets first", house.search(0, 0, 50), 1);
        told("the lowest sets first", house, 5, 0, 3);
        SignalHouse two = Check.house("A(a)x{?a(1;!x)(1;1;!x)}");
        CHECK.due("found first, looked at first", two.search(0, 0, 50), 1);
        told("found first, looked at first", two, 4, 1, 0);
        SignalHouse same = Check.house("A(ab)x{$T(*(?a(.T)(0);1));1;?b(!x)(0)}");
        CHECK.due("the way found first", same.search(0, 0, 50), 1);
        told("the way found first", same, 4, 1, 2);
    }

    private static void bounds() {
        SignalHouse house = Check.house("A()x{1;1;1}B(abcd)x{&a|&b|&c|&d|1;1}C()x{*(1)}");
        CHECK.due("one state", house.search(0, 0, 1), 2);
        told("one state", house, 1);
        CHECK.due("four states", house.search(0, 0, 4), 2);
        told("four states", house, 4);
        CHECK.due("five states", house.search(0, 0, 5), 0);
        told("five states", house, 5);
        CHECK.due("three hundred", house.search(0, NONE, 300), 0);
        told("three hundred", house, 5);
        CHECK.due("four inputs", house.search(1, 0, 300), 0);
        told("four inputs", house, 34);
        CHECK.due("one state too few", house.search(1, 0, 33), 2);
        told("one state too few", house, 33);
        CHECK.due("a loop", house.search(2, 0, 2), 0);
        told("a loop", house, 2);
    }

    private static void wrongSearches() {
        SignalHouse house = Check.house("A(a)xy{&a;!x}B(abcde)x{0}");
        house.search(0, 0, 9);
        int[] wrongMost = {0, -1, 301, Integer.MIN_VALUE, Integer.MAX_VALUE};
        for (int most : wrongMost) {
            CHECK.due("most " + most, house.search(0, 1, most), NONE);
        }
        int[] wrongProgram = {-1, 2, 6, Integer.MIN_VALUE, Integer.MAX_VALUE};
        for (int k : wrongProgram) {
            CHECK.due("program " + k, house.search(k, 0, 9), NONE);
        }
        int[] wrongOutput = {-2, 2, 31, 32, Integer.MIN_VALUE, Integer.MAX_VALUE};
        for (int what : wrongOutput) {
            CHECK.due("output " + what, house.search(0, what, 9), NONE);
        }
        CHECK.due("five inputs", house.search(1, 0, 9), NONE);
        CHECK.due("five inputs", house.search(1, NONE, 9), NONE);
        told("changing nothing", house, 2, 0, 1);
    }

    private static void differences() {
        SignalHouse house = Check.house("A(a)x{?a(!x)(0)}B(b)y{?b(0)(!y)}C(c)z{1;?c(!z)(0)}D(c)z{1;?c(0;!z)(1)}");
        CHECK.due("unlike", house.differ(0, 1, 9), 1);
        told("unlike", house, 1, 0);
        CHECK.due("later", house.differ(0, 2, 9), 1);
        told("later", house, 2, 1);
        CHECK.due("states do not count", house.differ(2, 3, 9), 0);
        told("states do not count", house, 4);
        CHECK.due("with itself", house.differ(1, 1, 9), 0);
        told("with itself", house, 2);
        SignalHouse names = Check.house("A(ab)xy{?a(!x)(!y)}B(ba)yx{?b(!y)(!x)}");
        CHECK.due("by place, not by letter", names.differ(0, 1, 9), 0);
        SignalHouse four = Check.house("A(abcd)x{&d;!x}B(abcd)x{1;1;&d;!x}");
        CHECK.due("four inputs", four.differ(0, 1, 9), 1);
        told("four inputs", four, 3, 0, 8);
        SignalHouse second = Check.house("A()xy{!x}B()xy{!y}");
        CHECK.due("sets, not numbers of them", second.differ(0, 1, 9), 1);
        told("sets, not numbers of them", second, 1, 0);
    }

    private static void differencesByFailing() {
        SignalHouse house = Check.house("A(a)x{?a(?x(0)(!x))(0)}B(a)x{0}C(a)x{?a(@s(?s(0)(!s)))(0)}D(a)x{?a(!x)(0)}");
        CHECK.due("the first fails", house.differ(0, 1, 9), 1);
        told("the first fails", house, 2, 1);
        CHECK.due("the second fails", house.differ(1, 0, 9), 1);
        told("the second fails", house, 2, 1);
        CHECK.due("both fail", house.differ(0, 2, 9), 0);
        told("both fail", house, 2);
        CHECK.due("fails against one that is there", house.differ(3, 2, 9), 1);
        told("fails against one that is there", house, 2, 1);
    }

    private static void differencesBounded() {
        SignalHouse house = Check.house("A()x{*(1;1)}B()x{*(1;1;1)}C()x{*(1;1);!x}");
        CHECK.due("seven pairs", house.differ(0, 1, 7), 0);
        told("seven pairs", house, 7);
        CHECK.due("one too few", house.differ(0, 1, 6), 2);
        told("one too few", house, 6);
        CHECK.due("one pair", house.differ(0, 1, 1), 2);
        told("one pair", house, 1);
    }

    private static void wrongDifferences() {
        SignalHouse house = Check.house("A(a)x{0}B(ab)x{0}C(a)xy{0}D(abcde)x{0}E(abcde)x{0}F(a)x{1}");
        CHECK.due("differ(0, 5, 9)", house.differ(0, 5, 9), 0);
        int[][] wrong = {{0, 1, 9}, {1, 0, 9}, {0, 2, 9}, {2, 0, 9}, {3, 4, 9}, {3, 3, 9}, {0, 6, 9}, {6, 0, 9}, {-1, 0, 9},
            {0, -1, 9}, {-1, -1, 9}, {0, 5, 0}, {0, 5, -1}, {0, 5, 301}, {0, 5, Integer.MAX_VALUE},
            {Integer.MIN_VALUE, Integer.MAX_VALUE, 9}};
        for (int[] call : wrong) {
            String what = "differ(" + call[0] + ", " + call[1] + ", " + call[2] + ")";
            CHECK.due(what, house.differ(call[0], call[1], call[2]), NONE);
        }
        told("changing nothing", house, 3);
    }

    private static void runsStay() {
        SignalHouse house = Check.house("A(a)x{&a;!x}");
        CHECK.due("search", house.search(0, 0, 9), 1);
        told("search", house, 2, 0, 1);
        CHECK.due("a fault", Check.load(house, "A"), NONE);
        told("behind a fault", house, 2, 0, 1);
        CHECK.due("another module", Check.load(house, "A()x{0}"), 1);
        told("behind another module", house, 2, 0, 1);
        CHECK.due("differ", house.differ(0, 0, 1), 2);
        told("differ", house, 1);
    }

    private static void longestRun() {
        // Loops of 2, 11 and 13 ticks end together only every 286 ticks.
        String loops = "*(1;1;!s)|*(" + "1;".repeat(11) + "!t)|*(" + "1;".repeat(13) + "!u)";
        SignalHouse house = Check.house("A()x{@s(@t(@u(" + loops + "|*(1;?s(?t(?u(!x)(0))(0))(0)))))}");
        CHECK.due("together at last", house.search(0, 0, 300), 1);
        CHECK.due("ticks", house.run(NONE), 287);
        CHECK.due("states", house.run(-2), 287);
        for (int i = 0; i < 287; i++) {
            CHECK.due("run(" + i + ")", house.run(i), 0);
        }
        CHECK.due("behind it", house.run(287), NONE);
        CHECK.due("just enough states", house.search(0, 0, 287), 1);
        CHECK.due("one state fewer", house.search(0, 0, 286), 2);
    }

    private static void searchesTouchNoInstance() {
        SignalHouse house = Check.house("A(a)x{*(!x;1;1)}");
        house.make(0);
        house.tick(0, 0);
        house.search(0, NONE, 9);
        house.differ(0, 0, 9);
        CHECK.due("out", house.out(0), 1);
        CHECK.due("stands", house.stands(0), 1);
        CHECK.due("ticks", house.ticks(0), 1);
        CHECK.due("instances", house.total(2), 1);
    }
}
