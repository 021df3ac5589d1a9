import java.io.IOException;

/** The sentences that bind texts: promises 1 to 5 and 15, each at the edge that it names. */
public final class TextBoundsTest {
    private static final int NONE = SignalHouse.NONE;
    private static final int MIN = Integer.MIN_VALUE;
    private static final int MAX = Integer.MAX_VALUE;
    private static final String ONES_30 = "1" + ";1".repeat(29);
    private static final String SIX = "A()x{0}B()x{0}C()x{0}D()x{0}E()x{0}F()x{0}";
    private static Sentences doc;

    public static void main(String[] args) throws IOException {
        doc = new Sentences();
        aNewObject();
        typing();
        modules();
        characters();
        depth();
        places();
        telling();
        loopsAtOnce();
        tooMany();
        whichFaultCounts();
        faultTold();
        programs();
        codesAtOnce();
        totals();
        doc.end(1, 2, 3, 4, 5, 15);
    }

    private static String in(String body) {
        return "A(a)x{" + body + "}";
    }

    /** The place is counted from the body on, which begins at 6. */
    private static void refusesIn(String body, int kind, int place) {
        doc.refuses(in(body), kind, place + 6);
    }

    private static SignalHouse typed(int characters) {
        SignalHouse house = new SignalHouse();
        Check.typed(house, "0".repeat(characters));
        return house;
    }

    private static void aNewObject() {
        doc.hold(1, "`SignalHouse()`: No MODULE, an empty TEXT.");
        SignalHouse used = new SignalHouse();
        Check.load(used, SIX);
        used.make(0);
        used.type('A', 1);
        SignalHouse house = new SignalHouse();
        for (int what = 0; what <= 2; what++) {
            doc.within("total(" + what + ") of a new one", house.total(what), 0);
            doc.beyond("total(" + what + ") of a used one", used.total(what) > 0, true);
        }
        doc.within("program(0, 0)", house.program(0, 0), NONE);
        doc.within("make(0)", house.make(0), NONE);
        doc.within("search(0, NONE, 1)", house.search(0, NONE, 1), NONE);
        doc.within("differ(0, 0, 1)", house.differ(0, 0, 1), NONE);
        doc.within("fault(0)", house.fault(0), 0);
        doc.within("fault(1)", house.fault(1), 0);
        doc.beyond("module() of no TEXT", Check.module(house), NONE);
    }

    private static void typing() {
        doc.hold(2, "A TEXT is of at most 500 characters 33 .. 126.");
        SignalHouse full = typed(499);
        doc.within("the 500th character", full.type('}', 1), true);
        doc.within("total(1)", full.total(1), 500);
        doc.beyond("the 501st character", full.type('}', 1), false);
        doc.beyond("total(1)", full.total(1), 500);
        doc.reads("A(a)x{0" + ";0".repeat(246) + "}");
        for (int c = 0; c < 256; c++) {
            boolean stands = c >= 33 && c <= 126;
            SignalHouse house = new SignalHouse();
            if (stands) {
                doc.within("type(" + c + ", 1)", house.type(c, 1), true);
            } else {
                doc.beyond("type(" + c + ", 1)", house.type(c, 1), false);
            }
            doc.within("total(1)", house.total(1), stands ? 1 : 0);
        }

        doc.hold(2, "The n (1 .. 8) lowest bytes of word, the highest first, go to the TEXT: true");
        for (int n = 1; n <= 8; n++) {
            SignalHouse house = new SignalHouse();
            long above = n == 8 ? 0 : -1L << 8 * n;
            doc.within("type with n " + n, house.type(0x2121212121212121L & ~above, n), true);
            doc.within("type with n " + n + " below bytes of 255", house.type(0x7E7E7E7E7E7E7E7EL | above, n), true);
            doc.within("total(1)", house.total(1), 2 * n);
        }
        SignalHouse order = new SignalHouse();
        doc.within("type the highest first", order.type(Check.word("C()x{0}B"), 8), true);
        doc.within("type with n 7", order.type(Check.word("()x{0}A"), 7), true);
        doc.within("type with n 1", order.type('(', 1), true);
        doc.within("type with n 5 of a word with 7", order.type(Check.word("~~)x{0}"), 5), true);
        doc.within("module()", Check.module(order), 3);
        doc.within("program(0, 0)", order.program(0, 0), 'C');
        doc.within("program(2, 0)", order.program(2, 0), 'A');
        doc.beyond("no byte above the n", order.total(1), 0);

        doc.hold(2, "false, changing nothing, for another n");
        SignalHouse house = typed(3);
        int[] others = {0, 9, -1, -8, 10, 16, 64, 256, 257, 264, 1 << 16 | 1, MIN, MIN + 1, MAX};
        for (int n : others) {
            doc.beyond("type with n " + n, house.type(0x4141414141414141L, n), false);
            doc.beyond("total(1)", house.total(1), 3);
        }
        doc.within("type with n 1", house.type('A', 1), true);
        doc.within("type with n 8", house.type(0x4141414141414141L, 8), true);
        doc.within("total(1)", house.total(1), 12);

        doc.hold(2, "a byte that is not 33 .. 126");
        int[] wrongBytes = {0, 31, 32, 127, 128, 128 + 33, 128 + 126, 255};
        for (int n = 1; n <= 8; n++) {
            for (int at = 0; at < n; at++) {
                byteAt(n, at, wrongBytes);
            }
        }

        doc.hold(2, "or if it would have more than 500.");
        for (int n = 1; n <= 8; n++) {
            SignalHouse room = typed(500 - n);
            doc.within("type of " + n + " behind " + (500 - n), room.type(0x4141414141414141L, n), true);
            doc.within("total(1)", room.total(1), 500);
            SignalHouse none = typed(501 - n);
            doc.beyond("type of " + n + " behind " + (501 - n), none.type(0x4141414141414141L, n), false);
            doc.beyond("total(1)", none.total(1), 501 - n);
        }
        SignalHouse again = typed(500);
        Check.module(again);
        doc.within("type when the TEXT is empty again", again.type('A', 1), true);
    }

    private static void byteAt(int n, int at, int[] wrongBytes) {
        SignalHouse house = typed(2);
        long others = 0x4141414141414141L & ~(0xFFL << 8 * at);
        for (int wrong : wrongBytes) {
            doc.beyond("type of " + n + " with byte " + wrong + " at " + at, house.type(others | (long) wrong << 8 * at, n), false);
            doc.beyond("total(1)", house.total(1), 2);
        }
        doc.within("type of " + n + " with byte 33 at " + at, house.type(others | 33L << 8 * at, n), true);
        doc.within("type of " + n + " with byte 126 at " + at, house.type(others | 126L << 8 * at, n), true);
        doc.within("total(1)", house.total(1), 2 + 2 * n);
    }

    private static void modules() {
        doc.hold(3, "A MODULE: 1 to 6 PROGRAMS, one behind the other.");
        for (int count = 1; count <= 6; count++) {
            SignalHouse house = new SignalHouse();
            doc.within("module() of " + count, Check.load(house, SIX.substring(0, 7 * count)), count);
            doc.within("total(0)", house.total(0), count);
        }
        doc.refuses("", 1, 0);
        doc.refuses(SIX + "A()x{0}", 1, 42);
        doc.refuses(SIX + "F", 1, 42);

        doc.hold(3, "The TEXT (which is empty then in any case) is the MODULE from now on: how many PROGRAMS");
        SignalHouse house = new SignalHouse();
        doc.within("module()", Check.load(house, "A()x{0}"), 1);
        doc.within("total(1) behind a MODULE", house.total(1), 0);
        doc.beyond("module() of a FAULT", Check.load(house, "A()x{"), NONE);
        doc.beyond("total(1) behind a FAULT", house.total(1), 0);
        doc.beyond("module() of none", Check.module(house), NONE);
        doc.within("nothing of the former TEXT is left", Check.load(house, "B()x{0}C()x{0}"), 2);
        doc.within("program(0, 0)", house.program(0, 0), 'B');

        doc.hold(3, "all INSTANCES are gone");
        SignalHouse full = Check.house("A()x{!x;1}");
        for (int i = 0; i < 8; i++) {
            full.make(0);
            full.tick(i, 0);
        }
        doc.within("total(2) ahead of it", full.total(2), 8);
        doc.beyond("module()", Check.load(full, "A()x{!x;1}"), 1);
        doc.beyond("total(2)", full.total(2), 0);
        for (int i = 0; i < 8; i++) {
            doc.beyond("tick(" + i + ", 0)", full.tick(i, 0), NONE);
            doc.beyond("out(" + i + ")", full.out(i), NONE);
            doc.beyond("stands(" + i + ")", full.stands(i), NONE);
            doc.beyond("ticks(" + i + ")", full.ticks(i), NONE);
            doc.beyond("back(" + i + ", -2)", full.back(i, -2), false);
        }
        for (int i = 0; i < 8; i++) {
            doc.within("make(0) behind it", full.make(0), i);
            doc.within("a new one", full.stands(i), -2);
        }

        doc.hold(3, "IllegalArgumentException: it has a FAULT (all else stays).");
        String[] faults = {"", "A(a)x{", "A(a)x{!a}", "A(a)x{*(0)}", in(ONES_30 + ";1"), SIX + "A()x{0}"};
        for (String fault : faults) {
            faultLeaves(fault);
        }
    }

    private static void faultLeaves(String text) {
        SignalHouse house = Check.house("A(a)xy{!y;1;1}B()z{0}");
        house.make(0);
        house.make(1);
        house.tick(0, 1);
        house.search(0, 1, 9);
        Check.typed(house, text);
        String thrown = "nothing";
        try {
            house.module();
        } catch (RuntimeException e) {
            thrown = e.getClass().getName();
        }
        doc.beyond("module() of " + text + " throws " + thrown, thrown.equals("java.lang.IllegalArgumentException"), true);
        int[][] stays = {{house.total(0), 2}, {house.total(2), 2}, {house.program(0, 2), 2}, {house.program(1, 0), 'B'},
            {house.out(0), 2}, {house.stands(0), 1}, {house.ticks(0), 1}, {house.stands(1), -2}, {house.run(NONE), 1},
            {house.run(0), 0}, {house.run(-2), 1}, {house.tick(0, 0), 0}, {house.stands(0), 2}, {house.make(1), 2}};
        for (int i = 0; i < stays.length; i++) {
            doc.within("what stays, " + i + ", behind " + text, stays[i][0], stays[i][1]);
        }
    }

    private static void characters() {
        doc.hold(4, "PROGRAM: NAME (A .. F), (");
        for (char c = 33; c <= 126; c++) {
            if (c >= 'A' && c <= 'F') {
                doc.reads(c + "()x{0}");
            } else {
                doc.refuses(c + "()x{0}", 1, 0);
            }
        }

        doc.hold(4, "INPUTS: any number of letters a .. z, )");
        doc.reads("A()z{0}");
        doc.reads("A(abcdefghijklmnopqrstuvwxy)z{0}");
        doc.reads("A(bcdefghijklmnopqrstuvwxyz)a{0}");
        for (char c = 33; c <= 126; c++) {
            boolean letter = c >= 'a' && c <= 'z';
            String text = "A(" + c + ")" + (c == 'x' ? 'y' : 'x') + "{0}";
            if (letter) {
                doc.reads(text);
            } else {
                doc.refuses(text, 1, c == ')' ? 3 : 2);
            }
        }

        doc.hold(4, "OUTPUTS: one letter at least, { P } .");
        doc.reads("A(a)x{0}");
        doc.reads("A()abcdefghijklmnopqrstuvwxyz{0}");
        doc.refuses("A(a){0}", 1, 4);
        doc.refuses("A(){0}", 1, 3);
        doc.refuses("A()X{0}", 1, 3);
        doc.refuses("A()x{}", 1, 5);
        doc.refuses("A()x0}", 1, 4);

        doc.hold(4, "P: Q, then any number of | Q (side by side). Q: U, then any number of ; U (one behind the other).");
        for (String sign : new String[] {"|", ";"}) {
            doc.reads(in("0"));
            doc.reads(in("0" + sign + "0"));
            doc.reads(in("0" + (sign + "0").repeat(246)));
            refusesIn("0" + sign, 1, 2);
            refusesIn(sign + "0", 1, 0);
            refusesIn("0" + sign + sign + "0", 1, 2);
        }
        refusesIn("00", 1, 1);

        doc.hold(4, "$ T ( P ): a TRAP, T A .. Z. . T: an EXIT.");
        for (char c = 33; c <= 126; c++) {
            boolean trap = c >= 'A' && c <= 'Z';
            if (trap) {
                doc.reads(in("$" + c + "(." + c + ")"));
            } else {
                refusesIn("$" + c + "(0)", 1, 1);
                refusesIn("$A(." + c + ")", 1, 4);
            }
        }
    }

    private static void depth() {
        doc.hold(4, "All kinds of ( that are open: at most 12 deep.");
        String[][] kinds = {{"(", ")"}, {"?a(", ")(1)"}, {"?a(1)(", ")"}, {"*(", ")"}, {"#a(", ")"}, {"$T(", ")"},
            {"%a(", ")"}, {"~a(", ")"}};
        for (String[] kind : kinds) {
            for (int before = 0; before <= 11; before += 11) {
                String open = "(".repeat(before) + kind[0].repeat(12 - before);
                String close = kind[1].repeat(12 - before) + ")".repeat(before);
                doc.reads(in(open + "1" + close));
                doc.reads(in(open + "&a;^x" + close));
                refusesIn(open + "(1)" + close, 1, open.length());
            }
            refusesIn("(".repeat(12) + kind[0] + "1" + kind[1] + ")".repeat(12), 1, 12 + kind[0].indexOf('('));
        }
        doc.reads(in("(".repeat(8) + "@b(@c(@d(@e(0" + ")".repeat(12)));
        refusesIn("(".repeat(9) + "@b(@c(@d(@e(0" + ")".repeat(13), 1, 9 + 11);
        doc.reads(in("(0);".repeat(60) + "0"));
        doc.reads(in("(".repeat(12) + "1" + ")".repeat(12) + "|" + "(".repeat(12) + "1" + ")".repeat(12)));
        doc.reads("A(a)x{" + "(".repeat(12) + "1" + ")".repeat(12) + "}B(a)x{" + "(".repeat(12) + "1" + ")".repeat(12) + "}");
    }

    private static void places() {
        doc.hold(4, "FAULT 1: the place of the first character that can't stand (a too deep ( , a seventh NAME), or the length.");
        String whole = "F(ab)xy{?a(!x)(0);*(1)|#b($T(.T|1))|@s(!s;(1));&a|^y;%a(1)|~b(1;!x)}";
        doc.reads(whole);
        doc.reads(whole + "A()x{0}");
        for (int i = 0; i < whole.length(); i++) {
            doc.refuses(whole.substring(0, i), 1, i);
            doc.refuses(whole.substring(0, i) + '"' + whole.substring(i + 1), 1, i);
            doc.refuses("A()x{0}" + whole.substring(0, i) + '"' + whole.substring(i), 1, i + 7);
        }
        doc.refuses(whole + "}", 1, whole.length());
        doc.refuses("A()x{0" + ";0".repeat(247), 1, 500);
        doc.refuses("A()x{0" + ";0".repeat(246) + "}B", 1, 500);
        doc.refuses("A()x{0" + ";0".repeat(246) + "}}", 1, 499);
        refusesIn("(".repeat(14) + "0", 1, 12);
        doc.refuses(SIX + "A()x{0}B", 1, 42);
    }

    private static void telling() {
        doc.hold(4, "FAULT 2: a NAME told before");
        doc.reads("A()x{0}B()x{0}");
        doc.refuses("A()x{0}A()x{0}", 2, 7);
        doc.refuses("B()x{0}A()x{0}B()x{0}A()x{0}", 2, 14);
        doc.refuses("A()x{0}B()x{0}C()x{0}D()x{0}E()x{0}E()x{0}", 2, 35);

        doc.hold(4, "a letter told twice among INPUTS and OUTPUTS");
        doc.reads("A(ab)xy{0}B(ab)xy{0}");
        doc.refuses("A(aa)x{0}", 2, 3);
        doc.refuses("A(aba)x{0}", 2, 4);
        doc.refuses("A(ab)b{0}", 2, 5);
        doc.refuses("A()xx{0}", 2, 4);
        doc.refuses("A(abcdefghijklmnopqrstuvwxyz)a{0}", 2, 29);
        doc.refuses("A()abcdefghijklmnopqrstuvwxyza{0}", 2, 29);

        doc.hold(4, "or told by @ where it is told already (there, or by an @ around)");
        doc.reads(in("@b(0)"));
        doc.reads(in("@b(0);@b(0)|@b(@c(0))|@c(@b(0))"));
        refusesIn("@a(0)", 2, 1);
        refusesIn("@x(0)", 2, 1);
        refusesIn("@b(@b(0))", 2, 4);
        refusesIn("@b(@c(@d(@b(0))))", 2, 10);
        refusesIn("@b(0);@c(0;@c(0))", 2, 12);

        doc.hold(4, "one that is not told where it stands");
        String[][] uses = {{"!", ""}, {"?", "(1)(1)"}, {"#", "(1)"}, {"&", ""}, {"^", ""}, {"%", "(1)"}, {"~", "(1)"}};
        for (String[] use : uses) {
            doc.reads(in(use[0] + "x" + use[1]));
            doc.reads(in("@b(" + use[0] + "b" + use[1] + ")"));
            refusesIn(use[0] + "b" + use[1], 2, 1);
            refusesIn("@b(0);" + use[0] + "b" + use[1], 2, 7);
            refusesIn(use[0] + "b" + use[1] + "|@b(0)", 2, 1);
            doc.refuses("B(b)y{0}A(a)x{" + use[0] + "y" + use[1] + "}", 2, 15);
            doc.refuses("B(b)y{@s(0)}A(a)x{" + use[0] + "s" + use[1] + "}", 2, 19);
        }

        doc.hold(4, "! or ^ of an INPUT");
        for (String[] use : uses) {
            if (use[0].equals("!") || use[0].equals("^")) {
                refusesIn(use[0] + "a", 2, 1);
                doc.refuses("A(ab)x{" + use[0] + "b}", 2, 8);
                doc.reads("A(ab)xy{" + use[0] + "x|" + use[0] + "y}");
            } else {
                doc.reads(in(use[0] + "a" + use[1]));
            }
        }
        doc.reads("A(a)x{0}B()a{!a;^a}");

        doc.hold(4, "a T of an EXIT that is in no TRAP of it.");
        doc.reads(in("$T(.T)"));
        doc.reads(in("$T($U($T($V(.T;.U;.V))))"));
        doc.reads(in("$T(" + "$U(".repeat(11) + ".T" + ")".repeat(12)));
        refusesIn(".T", 2, 1);
        refusesIn("$U(.T)", 2, 4);
        refusesIn("$T(0);.T", 2, 7);
        refusesIn(".T;$T(0)", 2, 1);
        refusesIn("$T(.T)|.T", 2, 8);
        for (char c = 'A'; c <= 'Z'; c++) {
            refusesIn("&a;%a(1;." + c + ")", 2, 9);
            refusesIn("~a(." + c + ")", 2, 4);
        }
        doc.refuses("A(a)x{$T(0)}B(a)x{.T}", 2, 19);

        doc.hold(4, "The place of the letter, NAME or T.");
        doc.refuses("A(a)x{0}A(a)x{0}", 2, 8);
        refusesIn("0;!b", 2, 3);
        refusesIn("0;?b(0)(0)", 2, 3);
        refusesIn("0;@x(0)", 2, 3);
        refusesIn("0;.T", 2, 3);
        doc.reads(in("0;!x"));
    }

    private static void loopsAtOnce() {
        doc.hold(4, "FAULT 3: the place of the * of one whose P may be done AT ONCE (of one that is told for others none can be).");
        String[] may = {"0", "!x", "?a(1)(0)", "?a(0)(1)", "0;!x", "?a(0)(1);0", "0|!x", "?a(0)(1)|0", "$T(.T)", "$T(1|.T)",
            "$T(?a(.T)(1))", "#a(0)", "@s(!s)", "%a(0)", "~a(0)", "(0)", "$T($U(.T);1)", "%a(?a(0)(1))"};
        for (String body : may) {
            refusesIn("*(" + body + ")", 3, 0);
            refusesIn("1;1;*(" + body + ")", 3, 4);
            refusesIn("*(1;*(" + body + "))", 3, 4);
            doc.reads(in("*(1;(" + body + "))"));
            doc.reads(in("*((" + body + ")|1)|0"));
            doc.reads(in("*((" + body + ");1)"));
        }
        String[] never = {"1", "?a(1)(1)", "0;1", "?a(0)(1);1", "1;0", "0|1", "$T(1)", "$T(1;.T)", "$T($U(.U);1)", "#a(1)",
            "@s(1)", "%a(1)", "~a(1)", "&a", "^x", "*(1)", "&a;!x", "%a(1;0)"};
        for (String body : never) {
            doc.reads(in("*(" + body + ")"));
        }
        doc.reads(in("$T(*(.T))"));
        doc.reads(in("&a;^x|%a(0);~a(0)"));
        refusesIn("*(*(0))", 3, 2);
    }

    private static void tooMany() {
        doc.hold(4, "FAULT 4: the place of the @ that is within four others");
        doc.reads(in("@b(@c(@d(@e(0))))"));
        doc.reads(in("@b(@c(@d(@e(0);@f(0)|@g(0))))"));
        doc.reads(in("@b(0);@c(0);@d(0);@e(0);@f(0);@g(0)"));
        doc.reads(in("@b(!b);".repeat(60) + "@c(!c);!x"));
        refusesIn("@b(@c(@d(@e(@f(0)))))", 4, 12);
        refusesIn("@b(@c(@d(@e(@f(@g(0))))))", 4, 12);
        refusesIn("@b(0);@b(@c(@d(@e(0;*(1;@f(0))))))", 4, 24);
        doc.refuses("A()x{@b(@c(@d(@e(0))))}B()x{@b(@c(@d(@e(@f(0)))))}", 4, 40);

        doc.hold(4, "or of a character (1 , & , ^ , % , ~) whose PAUSE would have the number 30, or more, of its PROGRAM.");
        String ones29 = ONES_30.substring(2);
        String[] signs = {"1", "&a", "^x", "%a(0)", "~a(0)"};
        for (String sign : signs) {
            doc.reads(in(ones29 + ";" + sign));
            refusesIn(ONES_30 + ";" + sign, 4, 60);
            refusesIn(ONES_30 + ";" + sign + ";1", 4, 60);
            refusesIn(ONES_30 + ";0;1;" + sign, 4, 62);
            String many = sign + (";" + sign).repeat(29);
            doc.reads(in(many));
            refusesIn(many + ";" + sign, 4, 30 * (sign.length() + 1));
            doc.reads(in(many) + "B(a)x{" + many + "}");
        }
        doc.reads(in("0;%a(" + ones29 + ")"));
        refusesIn("0;%a(" + ONES_30 + ")", 4, 2);
        refusesIn("0;~a(" + ONES_30 + ")", 4, 2);
        refusesIn("0;~a(" + ONES_30 + ";1)", 4, 2);
        refusesIn("%a(" + ones29 + ");1", 4, 3 + 57 + 2);
        doc.reads("A(a)x{" + ONES_30 + "}B(a)x{" + ONES_30 + "}C(a)x{" + ONES_30 + "}");
        doc.refuses("A(a)x{" + ONES_30 + "}B(a)x{" + ONES_30 + ";1}", 4, 6 + 59 + 1 + 6 + 60);
    }

    private static void whichFaultCounts() {
        doc.hold(4, "Of several the least FAULT, of these the least place.");
        String[] units = {"2", "!q", "*(0)", "@b(@c(@d(@e(@f(0)))))"};
        int[] offsets = {0, 1, 0, 12};
        for (int one = 0; one < units.length; one++) {
            for (int two = 0; two < units.length; two++) {
                int least = Math.min(one, two);
                int start = one <= two ? 0 : units[one].length() + 1;
                refusesIn(units[one] + ";" + units[two], least + 1, start + offsets[least]);
            }
        }
        String all = ONES_30 + ";1;*(0);!q;!a;.T";
        refusesIn(all, 2, 68);
        refusesIn(all + ";", 1, all.length() + 1);
        refusesIn(ONES_30 + ";1;@b(@c(@d(@e(@f(0)))))", 4, 60);
        refusesIn("@b(@c(@d(@e(@f(0)))));" + ONES_30 + ";1", 4, 12);
        refusesIn("1;%a(1;1;%a(" + ONES_30 + "))", 4, 2);
        doc.refuses("A(aa)x{!a}A()x{.T}", 2, 3);
        doc.reads(in(ONES_30 + ";@b(@c(@d(@e(!x))));$T(.T)"));
    }

    private static void faultTold() {
        doc.hold(4, "The FAULT of the latest TEXT, what 0: its kind, 1: its place; both 0 without.");
        SignalHouse house = new SignalHouse();
        String[] texts = {"A()x{0}", "A()x{*(0)}", "A()x{0}", "A()x", "A()x{!q}", "", "B()x{1}"};
        int[] kinds = {0, 3, 0, 1, 2, 1, 0};
        int[] faultPlaces = {0, 5, 0, 4, 6, 0, 0};
        for (int i = 0; i < texts.length; i++) {
            Check.load(house, texts[i]);
            String call = "of " + texts[i];
            if (kinds[i] == 0) {
                doc.within("fault(0) " + call, house.fault(0), 0);
                doc.within("fault(1) " + call, house.fault(1), 0);
            } else {
                doc.beyond("fault(0) " + call, house.fault(0), kinds[i]);
                doc.beyond("fault(1) " + call, house.fault(1), faultPlaces[i]);
            }
        }

        doc.hold(4, "NONE for another what.");
        int[] others = {-1, 2, -2, 3, 4, 100, MIN, MAX};
        SignalHouse faulty = new SignalHouse();
        Check.load(faulty, "A()x{*(0)}");
        for (int what : others) {
            doc.beyond("fault(" + what + ")", house.fault(what), NONE);
            doc.beyond("fault(" + what + ") of one with a FAULT", faulty.fault(what), NONE);
        }
        doc.within("fault(0)", faulty.fault(0), 3);
        doc.within("fault(1)", faulty.fault(1), 5);
    }

    private static void programs() {
        doc.hold(5, "NONE if there is none such, or for another what.");
        SignalHouse six = Check.house(SIX);
        for (int k = 0; k < 6; k++) {
            doc.within("program(" + k + ", 0)", six.program(k, 0), 'A' + k);
        }
        SignalHouse house = Check.house("C(ab)xyz{&a;1|1}");
        int[] told = {'C', 2, 3, 3, 2};
        for (int what = 0; what < 5; what++) {
            doc.within("program(0, " + what + ")", house.program(0, what), told[what]);
            for (int k : new int[] {-1, 1, 5, 6, MIN, MAX}) {
                doc.beyond("program(" + k + ", " + what + ")", house.program(k, what), NONE);
            }
            doc.beyond("program(6, " + what + ") of six", six.program(6, what), NONE);
            doc.beyond("program(-1, " + what + ") of six", six.program(-1, what), NONE);
        }
        for (int what : new int[] {-1, 5, 6, 99, 103, 104, 129, 130, MIN, MIN + 100, MAX}) {
            doc.beyond("program(0, " + what + ")", house.program(0, what), NONE);
        }

        doc.hold(5, "what 0: its NAME (the character), 1: INPUTS, 2: OUTPUTS, 3: PAUSES");
        String letters = "abcdefghijklmnopqrstuvwxyz";
        for (int n = 0; n <= 25; n++) {
            String text = "F(" + letters.substring(0, n) + ")" + letters.substring(n) + "{" + "1;".repeat(n + 5) + "0}";
            SignalHouse counted = Check.house(text);
            doc.within("INPUTS of " + text, counted.program(0, 1), n);
            doc.within("OUTPUTS of " + text, counted.program(0, 2), 26 - n);
            doc.within("PAUSES of " + text, counted.program(0, 3), n + 5);
            doc.within("NAME of " + text, counted.program(0, 0), 'F');
        }
        doc.refuses("F(" + letters + "){0}", 1, 29);

        doc.hold(5, "100 + i: the place at which PAUSE i is told (of & ^ % ~ these).");
        SignalHouse thirty = Check.house(in(ONES_30) + "B()x{0}D(a)x{&a;^x|%a(1);~a(&a)}");
        for (int i = 0; i < 30; i++) {
            doc.within("program(0, " + (100 + i) + ")", thirty.program(0, 100 + i), 6 + 2 * i);
        }
        doc.beyond("program(0, 130)", thirty.program(0, 130), NONE);
        doc.beyond("program(1, 100) of no PAUSE", thirty.program(1, 100), NONE);
        int start = in(ONES_30).length() + 7 + 6;
        int[] at = {0, 3, 9, 6, 15, 12};
        for (int i = 0; i < at.length; i++) {
            doc.within("program(2, " + (100 + i) + ")", thirty.program(2, 100 + i), start + at[i]);
        }
        doc.beyond("program(2, 106)", thirty.program(2, 106), NONE);

        doc.hold(5, "PAUSES are numbered from 0 on as they come, these opened.");
        SignalHouse nested = Check.house(in("%a(~a(1);1);1"));
        int[] nestedAt = {12, 9, 15, 6, 18};
        for (int i = 0; i < nestedAt.length; i++) {
            doc.within("program(0, " + (100 + i) + ")", nested.program(0, 100 + i), nestedAt[i]);
        }
        doc.within("program(0, 3)", nested.program(0, 3), 5);
        doc.beyond("program(0, 105)", nested.program(0, 105), NONE);
        doc.within("30 of them", thirty.program(0, 3), 30);
        doc.beyond("none of them", thirty.program(1, 3), 0);
    }

    private static int atOnce(String body) {
        return Check.house(in(body)).program(0, 4);
    }

    private static void codesAtOnce() {
        doc.hold(5, "of P ; Q: those of P, but if 0 is one of them, the others and those of Q");
        doc.within("1;0", atOnce("1;0"), 2);
        doc.within("1;?a(0)(1)", atOnce("1;?a(0)(1)"), 2);
        doc.beyond("0;1", atOnce("0;1"), 2);
        doc.beyond("?a(0)(1);0", atOnce("?a(0)(1);0"), 3);
        doc.beyond("?a(0)(1);?a(0)(1);1", atOnce("?a(0)(1);?a(0)(1);1"), 2);

        doc.hold(5, "of * those of P but 0; of P | Q the greater ones of each two; of a TRAP 0 for 0 and 2, 1 for 1, one less for others");
        doc.within("*(1)", atOnce("*(1)"), 2);
        doc.within("0|0", atOnce("0|0"), 1);
        doc.within("0|1", atOnce("0|1"), 2);
        doc.within("?a(0)(1)|0", atOnce("?a(0)(1)|0"), 3);
        doc.within("?a(0)(1)|1", atOnce("?a(0)(1)|1"), 2);
        doc.within("?a(0)(1)|?a(0)(1)", atOnce("?a(0)(1)|?a(0)(1)"), 3);
        doc.within("$T(0)", atOnce("$T(0)"), 1);
        doc.within("$T(1)", atOnce("$T(1)"), 2);
        doc.beyond("$T(.T)", atOnce("$T(.T)"), 1);
        doc.beyond("$T(.T|1)", atOnce("$T(.T|1)"), 1);
        doc.beyond("$T($U(.T))", atOnce("$T($U(.T))"), 1);
        doc.beyond("$T($U(.T|.U);1)", atOnce("$T($U(.T|.U);1)"), 1);
        doc.beyond("$T($U(.U);1)", atOnce("$T($U(.U);1)"), 2);
        doc.beyond("$T($U(?a(.U)(.T);0);1)", atOnce("$T($U(?a(.U)(.T);0);1)"), 3);
        String deep = "$T(" + "$U(".repeat(11) + ".T" + ");1".repeat(11) + ")";
        doc.beyond("twelve of them", atOnce(deep), 1);
        doc.beyond("one fewer", atOnce("1|" + deep), 2);
        doc.within("the innermost of twelve", atOnce("$T(" + "$U(".repeat(11) + ".U" + ");1".repeat(11) + ")"), 2);
    }

    private static void totals() {
        doc.hold(15, "What 0: PROGRAMS, 1: characters of the TEXT, 2: INSTANCES. NONE for another what.");
        SignalHouse house = new SignalHouse();
        doc.within("total(0) of none", house.total(0), 0);
        doc.within("total(1) of none", house.total(1), 0);
        doc.within("total(2) of none", house.total(2), 0);
        Check.load(house, SIX);
        for (int i = 0; i < 9; i++) {
            house.make(0);
        }
        Check.typed(house, "0".repeat(500));
        house.type('0', 1);
        doc.within("total(0)", house.total(0), 6);
        doc.within("total(1)", house.total(1), 500);
        doc.within("total(2)", house.total(2), 8);
        for (int what : new int[] {-1, 3, -2, 4, 100, MIN, MAX}) {
            doc.beyond("total(" + what + ")", house.total(what), NONE);
        }
    }
}
