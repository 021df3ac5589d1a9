/** Promises 1 to 5 and 15: the new object, the text, the module, its faults and what its programs tell. */
public final class TextTest {
    private static final Check CHECK = new Check();
    private static final String ONES_30 = "1" + ";1".repeat(29);

    public static void main(String[] args) {
        newObject();
        typing();
        fiveHundred();
        modules();
        modulesWithFaults();
        faultsOfCharacters();
        faultsOfDepthAndNumber();
        faultsOfTelling();
        faultsOfLoops();
        faultsOfMany();
        whichFaultCounts();
        programs();
        pausePlaces();
        codesAtOnce();
        totals();
        CHECK.end();
    }

    private static void newObject() {
        SignalHouse house = new SignalHouse();
        for (int what = 0; what < 3; what++) {
            CHECK.due("new: total(" + what + ")", house.total(what), 0);
        }
        CHECK.due("new: fault(0)", house.fault(0), 0);
        CHECK.due("new: fault(1)", house.fault(1), 0);
        CHECK.due("new: program(0, 0)", house.program(0, 0), -1);
        CHECK.due("new: make(0)", house.make(0), -1);
        CHECK.due("new: tick(0, 0)", house.tick(0, 0), -1);
        CHECK.due("new: out(0)", house.out(0), -1);
        CHECK.due("new: stands(0)", house.stands(0), -1);
        CHECK.due("new: back(0, -2)", house.back(0, -2), false);
        CHECK.due("new: ticks(0)", house.ticks(0), -1);
        CHECK.due("new: search(0, -1, 1)", house.search(0, -1, 1), -1);
        CHECK.due("new: differ(0, 0, 1)", house.differ(0, 0, 1), -1);
        for (int tick = -3; tick < 2; tick++) {
            CHECK.due("new: run(" + tick + ")", house.run(tick), -1);
        }
        CHECK.due("new: module()", Check.module(house), -1);
        CHECK.due("new: fault(0) of no text", house.fault(0), 1);
        CHECK.due("new: fault(1) of no text", house.fault(1), 0);
    }

    private static void typing() {
        SignalHouse house = new SignalHouse();
        int[] wrongLengths = {0, 9, -1, 64, Integer.MIN_VALUE, Integer.MAX_VALUE};
        for (int n : wrongLengths) {
            CHECK.due("type with n " + n, house.type(0x4141414141414141L, n), false);
        }
        int[] wrongBytes = {0, 32, 127, 128, 200, 255};
        for (int wrong : wrongBytes) {
            for (int at = 0; at < 8; at++) {
                long word = 0x4141414141414141L & ~(0xFFL << 8 * at) | (long) wrong << 8 * at;
                CHECK.due("type with byte " + wrong + " at " + at, house.type(word, 8), false);
                CHECK.due("type beside byte " + wrong, at == 0 || new SignalHouse().type(word, at), true);
            }
        }
        CHECK.due("total(1) after refusals", house.total(1), 0);
        CHECK.due("type 33 and 126", house.type(33 << 8 | 126, 2), true);
        CHECK.due("type of a negative word", house.type(0xFFFFFFFFFFFFFF41L, 1), true);
        CHECK.due("type of a word with its highest bit", house.type(0x8141414141414141L, 8), false);
        CHECK.due("total(1) after three", house.total(1), 3);
        SignalHouse order = new SignalHouse();
        CHECK.due("type the highest first", order.type(Check.word("C()x{0}"), 7), true);
        CHECK.due("module of it", Check.module(order), 1);
        CHECK.due("its name", order.program(0, 0), 'C');
    }

    private static void fiveHundred() {
        SignalHouse house = new SignalHouse();
        String begin = "A()x{0";
        CHECK.due("type of 496", Check.typed(house, begin + ";0".repeat(245)), true);
        CHECK.due("total(1) of 496", house.total(1), 496);
        CHECK.due("five more", house.type(Check.word(";0;0}"), 5), false);
        CHECK.due("total(1) still 496", house.total(1), 496);
        CHECK.due("three more", house.type(Check.word(";0}"), 3), true);
        CHECK.due("two more", house.type(Check.word("B("), 2), false);
        CHECK.due("one more", house.type('B', 1), true);
        CHECK.due("total(1) of 500", house.total(1), 500);
        CHECK.due("another one", house.type('(', 1), false);
        CHECK.due("module", Check.module(house), -1);
        CHECK.due("fault at the length", house.fault(1), 500);
        CHECK.due("total(1) of none", house.total(1), 0);
        CHECK.due("all of 500", Check.load(house, "A(a)x{0" + ";0".repeat(246) + "}"), 1);
    }

    private static void modules() {
        SignalHouse house = Check.house("A()x{!x;1}B(a)y{0}");
        CHECK.due("programs", house.total(0), 2);
        CHECK.due("the text is empty", house.total(1), 0);
        CHECK.due("make", house.make(0), 0);
        CHECK.due("make", house.make(1), 1);
        CHECK.due("tick", house.tick(0, 0), 0);
        CHECK.due("another module", Check.load(house, "D(ab)xyz{1}"), 1);
        CHECK.due("programs then", house.total(0), 1);
        CHECK.due("instances then", house.total(2), 0);
        CHECK.due("its name", house.program(0, 0), 'D');
        CHECK.due("no second one", house.program(1, 0), -1);
        CHECK.due("out(0)", house.out(0), -1);
        CHECK.due("tick(0, 0)", house.tick(0, 0), -1);
        CHECK.due("numbers from 0 on", house.make(0), 0);
        CHECK.due("has not begun", house.stands(0), -2);
        CHECK.due("six", Check.load(house, "A()x{0}B()x{0}C()x{0}D()x{0}E()x{0}F()x{0}"), 6);
        CHECK.due("the sixth", house.program(5, 0), 'F');
        CHECK.due("names in any order", Check.load(house, "F()x{0}A()x{0}"), 2);
    }

    private static void modulesWithFaults() {
        SignalHouse house = Check.house("A()xy{!y;1}");
        CHECK.due("make", house.make(0), 0);
        CHECK.due("tick", house.tick(0, 0), 0);
        CHECK.due("a fault", Check.load(house, "A()x{0}B()x{!q}"), -1);
        CHECK.due("fault(0)", house.fault(0), 2);
        CHECK.due("fault(1)", house.fault(1), 13);
        CHECK.due("the text is empty", house.total(1), 0);
        CHECK.due("programs stay", house.total(0), 1);
        CHECK.due("outputs stay", house.program(0, 2), 2);
        CHECK.due("instances stay", house.total(2), 1);
        CHECK.due("out stays", house.out(0), 2);
        CHECK.due("stands stays", house.stands(0), 1);
        CHECK.due("it goes on", house.tick(0, 0), 0);
        CHECK.due("done", house.stands(0), -3);
        CHECK.due("no fault", Check.load(house, "A()x{0}"), 1);
        CHECK.due("fault(0) without", house.fault(0), 0);
        CHECK.due("fault(1) without", house.fault(1), 0);
        int[] others = {-1, 2, 3, Integer.MIN_VALUE, Integer.MAX_VALUE};
        for (int what : others) {
            CHECK.due("fault(" + what + ")", house.fault(what), -1);
        }
    }

    private static void fault(String text, int kind, int place) {
        SignalHouse house = new SignalHouse();
        int count = Check.load(house, text);
        CHECK.due("module throws for " + text, count == -1, kind != 0);
        CHECK.due("fault(0) of " + text, house.fault(0), kind);
        CHECK.due("fault(1) of " + text, house.fault(1), place);
    }

    private static void body(String body, int kind, int place) {
        fault("A(a)x{" + body + "}", kind, kind == 0 ? 0 : place + 6);
    }

    private static void faultsOfCharacters() {
        fault("A", 1, 1);
        fault("G()x{0}", 1, 0);
        fault("a()x{0}", 1, 0);
        fault("A{", 1, 1);
        fault("A(", 1, 2);
        fault("A(B)x{0}", 1, 2);
        fault("A()", 1, 3);
        fault("A(){0}", 1, 3);
        fault("A()x", 1, 4);
        fault("A()x(0)", 1, 4);
        fault("A()x{}", 1, 5);
        fault("A()x{0", 1, 6);
        fault("A()x{0}x", 1, 7);
        fault("A()x{0}G()x{0}", 1, 7);
        fault("A()x{0}}", 1, 7);
        fault("A()x{0}B", 1, 8);
        body("0;", 1, 2);
        body("0||0", 1, 2);
        body(";0", 1, 0);
        body("00", 1, 1);
        body("0)", 1, 1);
        body("(0", 1, 2);
        body("()", 1, 1);
        body("2", 1, 0);
        body("x", 1, 0);
        body("!X", 1, 1);
        body("!", 1, 1);
        body("?x(0)", 1, 5);
        body("?x(0);(0)", 1, 5);
        body("?x(0)(0)(0)", 1, 8);
        body("?(0)(0)", 1, 1);
        body("*0", 1, 1);
        body("*a(0)", 1, 1);
        body("#(1)", 1, 1);
        body("#x1", 1, 2);
        body("$a(0)", 1, 1);
        body("$T0", 1, 2);
        body(".x", 1, 1);
        body("@S(0)", 1, 1);
        body("@s0", 1, 2);
        body("&X", 1, 1);
        body("&x(0)", 1, 2);
        body("^0", 1, 1);
        body("%x0", 1, 2);
        body("~x", 1, 2);
    }

    private static void faultsOfDepthAndNumber() {
        body("(".repeat(12) + "0" + ")".repeat(12), 0, 0);
        body("(".repeat(13) + "0" + ")".repeat(13), 1, 12);
        body("(".repeat(12) + "*(1)" + ")".repeat(12), 1, 13);
        body("?x(0)(".repeat(12) + "?x(0)(0)" + ")".repeat(12), 1, 72 + 2);
        body("%a(".repeat(12) + "&a" + ")".repeat(12), 0, 0);
        body("%a(".repeat(12) + "~a(0)" + ")".repeat(12), 1, 38);
        body("#a(".repeat(6) + "$T(".repeat(6) + ".T" + ")".repeat(12), 0, 0);
        body("#a(".repeat(6) + "$T(".repeat(6) + "(0)" + ")".repeat(12), 1, 36);
        body("(0);".repeat(40) + "0", 0, 0);
        fault("A()x{0}B()x{0}C()x{0}D()x{0}E()x{0}F()x{0}A()x{0}", 1, 42);
        fault("A()x{0}B()x{0}C()x{0}D()x{0}E()x{0}F()x{0}G", 1, 42);
    }

    private static void faultsOfTelling() {
        fault("A()x{0}A()x{0}", 2, 7);
        fault("A()x{0}B()x{0}A()x{0}", 2, 14);
        fault("A(aba)x{0}", 2, 4);
        fault("A(a)xa{0}", 2, 5);
        fault("A()xyx{0}", 2, 5);
        fault("A(a)x{0}B(a)x{!x}", 0, 0);
        body("@x(0)", 2, 1);
        body("@a(0)", 2, 1);
        body("@s(@s(0))", 2, 4);
        body("@s(@t(@s(0)))", 2, 7);
        body("@s(!s);@s(!s)|@s(&s)", 0, 0);
        body("@s(0);!s", 2, 7);
        body("@s(0)|?s(0)(0)", 2, 7);
        String signs = "!?#&^%~";
        for (int i = 0; i < signs.length(); i++) {
            String tail = signs.charAt(i) == '?' ? "(1)(1)" : "#%~".indexOf(signs.charAt(i)) >= 0 ? "(1)" : "";
            body(signs.charAt(i) + "q" + tail, 2, 1);
            body(signs.charAt(i) + "x" + tail, 0, 0);
            boolean emits = "!^".indexOf(signs.charAt(i)) >= 0;
            body(signs.charAt(i) + "a" + tail, emits ? 2 : 0, 1);
            body("@s(" + signs.charAt(i) + "s" + tail + ")", 0, 0);
        }
        body(".T", 2, 1);
        body("$U(.T)", 2, 4);
        body("$T(0);.T", 2, 7);
        body("$T(.T|1;.T)", 0, 0);
        body("$T($U($V(.T;.U;.V)))", 0, 0);
        body("%a(.T)", 2, 4);
        body("$T(%a(.T))", 0, 0);
        fault("A()x{$T(0)}B()x{.T}", 2, 17);
    }

    private static void faultsOfLoops() {
        body("*(0)", 3, 0);
        body("1;*(!x)", 3, 2);
        body("*(*(0))", 3, 2);
        body("*(1;0)|*(0;0)", 3, 7);
        body("*(?a(1)(0))", 3, 0);
        body("*(?a(1)(1))", 0, 0);
        body("*(0|1)", 0, 0);
        body("*(0|0)", 3, 0);
        body("*($T(1|.T))", 3, 0);
        body("*($T(1;.T))", 0, 0);
        body("*($T($U(.T);1))", 3, 0);
        body("*($T($U(.U);1))", 0, 0);
        body("$T(*(.T))", 0, 0);
        body("*(#a(0))", 3, 0);
        body("*(#a(1))", 0, 0);
        body("*(@s(!s))", 3, 0);
        body("*(&a)", 0, 0);
        body("*(^x)", 0, 0);
        body("*(%a(0))", 3, 0);
        body("*(~a(0))", 3, 0);
        body("*(%a(1)|0)", 0, 0);
        body("*((*(0))|0)", 3, 3);
    }

    private static void faultsOfMany() {
        body("@b(@c(@d(@e(0))))", 0, 0);
        body("@b(@c(@d(@e(@f(0)))))", 4, 12);
        body("@b(@c(@d(@e(@f(@g(0))))))", 4, 12);
        body("@b(0);@c(0);@d(0);@e(0);@f(0);@g(0)", 0, 0);
        body(ONES_30, 0, 0);
        body(ONES_30 + ";1", 4, 60);
        body(ONES_30 + ";1;1", 4, 60);
        body(ONES_30 + ";&a", 4, 60);
        body(ONES_30 + ";^x", 4, 60);
        body(ONES_30 + ";~a(0)", 4, 60);
        body("0;%a(" + ONES_30 + ")", 4, 2);
        body("0;~a(1;" + ONES_30 + ")", 4, 2);
        body("0;*(" + ONES_30 + ";1)", 4, 64);
        fault("A()x{" + ONES_30 + "}B()x{" + ONES_30 + "}", 0, 0);
        body(ONES_30 + ";1;@b(@c(@d(@e(@f(0)))))", 4, 60);
        body("@b(@c(@d(@e(@f(0)))));" + ONES_30 + ";1", 4, 12);
    }

    private static void whichFaultCounts() {
        body("!a;", 1, 3);
        body("!q;.T", 2, 1);
        body("*(0);!q", 2, 6);
        body(ONES_30 + ";1;*(0)", 3, 62);
        body(ONES_30 + ";1;*(0);!q", 2, 68);
        fault("A(a)x{!a}A()x{0}", 2, 7);
        fault("A(aa)x{0}A()x{.T}", 2, 3);
    }

    private static void programs() {
        SignalHouse house = Check.house("C(abcde)xy{&a;1|^x}A()z{0}");
        int[] first = {'C', 5, 2, 3, 2};
        int[] second = {'A', 0, 1, 0, 1};
        for (int what = 0; what < 5; what++) {
            CHECK.due("program(0, " + what + ")", house.program(0, what), first[what]);
            CHECK.due("program(1, " + what + ")", house.program(1, what), second[what]);
            CHECK.due("program(-1, " + what + ")", house.program(-1, what), -1);
            CHECK.due("program(2, " + what + ")", house.program(2, what), -1);
        }
        int[] others = {-1, 5, 99, 103, 129, 130, Integer.MIN_VALUE, Integer.MAX_VALUE};
        for (int what : others) {
            CHECK.due("program(0, " + what + ")", house.program(0, what), -1);
        }
        CHECK.due("program(1, 100)", house.program(1, 100), -1);
        CHECK.due("program(MIN, 0)", house.program(Integer.MIN_VALUE, 0), -1);
        CHECK.due("program(MAX, 0)", house.program(Integer.MAX_VALUE, 0), -1);
    }

    private static void pausePlaces() {
        SignalHouse house = Check.house("A(a)x{0}B(a)x{%a(1;~a(&a));^x|1}");
        int[] places = {17, 22, 19, 14, 27, 30};
        CHECK.due("pauses", house.program(1, 3), places.length);
        for (int i = 0; i < places.length; i++) {
            CHECK.due("program(1, " + (100 + i) + ")", house.program(1, 100 + i), places[i]);
        }
        SignalHouse thirty = Check.house("A(a)x{%a(" + ONES_30.substring(2) + ")}");
        CHECK.due("thirty pauses", thirty.program(0, 3), 30);
        CHECK.due("program(0, 128)", thirty.program(0, 128), 9 + 2 * 28);
        CHECK.due("program(0, 129)", thirty.program(0, 129), 6);
        CHECK.due("program(0, 130)", thirty.program(0, 130), -1);
    }

    private static void codes(String body, int set) {
        CHECK.due("codes at once of " + body, Check.house("A(a)x{" + body + "}").program(0, 4), set);
    }

    private static void codesAtOnce() {
        codes("0", 1);
        codes("!x", 1);
        codes("1", 2);
        codes("?a(0)(1)", 3);
        codes("?a(0)(1);!x", 3);
        codes("?a(0)(1);1", 2);
        codes("1;0", 2);
        codes("*(1;0)", 2);
        codes("0|?a(0)(1)", 3);
        codes("1|?a(0)(1)", 2);
        codes("$T(.T)", 1);
        codes("$T(?a(.T)(1))", 3);
        codes("$T(1|.T)", 1);
        codes("$T($U(.T|1);1)", 1);
        codes("$T($U(.U|1);1)", 2);
        codes("$T(*(?a(.T)(1)))", 3);
        codes("#a(0)", 1);
        codes("@s(1)", 2);
        codes("&a", 2);
        codes("^x", 2);
        codes("%a(0)", 1);
        codes("%a(1)", 2);
        codes("~a(?x(0)(1))", 3);
        codes("$T(*(*(.T)))", 1);
    }

    private static void totals() {
        SignalHouse house = Check.house("A()x{0}B()x{0}");
        CHECK.due("typed", Check.typed(house, "A()"), true);
        house.make(0);
        house.make(1);
        house.make(2);
        CHECK.due("total(0)", house.total(0), 2);
        CHECK.due("total(1)", house.total(1), 3);
        CHECK.due("total(2)", house.total(2), 2);
        int[] others = {-1, 3, Integer.MIN_VALUE, Integer.MAX_VALUE};
        for (int what : others) {
            CHECK.due("total(" + what + ")", house.total(what), -1);
        }
    }
}
