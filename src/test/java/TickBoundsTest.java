import java.io.IOException;

/** The sentences that bind instances and their ticks: promises 6 to 11, each at the edge that it names. */
public final class TickBoundsTest {
    private static final int NONE = SignalHouse.NONE;
    private static final int MIN = Integer.MIN_VALUE;
    private static final int MAX = Integer.MAX_VALUE;
    private static final int NOT_BEGUN = -2;
    private static final int DONE = -3;
    private static final String LETTERS = "abcdefghijklmnopqrstuvwxyz";
    /** A local signal that is learned only where CAN is asked SURE. */
    private static final String LEARNS = "@s(!s;?s(0)(!y))";
    private static Sentences doc;

    public static void main(String[] args) throws IOException {
        doc = new Sentences();
        making();
        inputs();
        failsWithOne();
        failsWithTwo();
        failsChangeNothing();
        doneEmitsNothing();
        settling();
        codes();
        toldForOthers();
        suspending();
        sureOrNot();
        locals();
        standing();
        out();
        stands();
        back();
        backCannotBe();
        ticks();
        manyCalls();
        doc.end(6, 7, 8, 9, 10, 11);
    }

    private static SignalHouse one(String text) {
        SignalHouse house = Check.house(text);
        house.make(0);
        return house;
    }

    /** Steps of three: the inputs, what is there then, where it stands then. */
    private static void goes(String text, int... steps) {
        SignalHouse house = one(text);
        for (int i = 0; i + 2 < steps.length; i += 3) {
            String call = text + " tick " + i / 3 + " with " + steps[i];
            doc.within(call, house.tick(0, steps[i]), 0);
            doc.within(call + ": out", house.out(0), steps[i + 1]);
            doc.within(call + ": stands", house.stands(0), steps[i + 2]);
        }
    }

    /** Put back there, what is there in the next tick without inputs, and where it stands then. */
    private static void backTo(String text, int set, int out, int then) {
        SignalHouse house = one(text);
        doc.within(text + " back(0, " + set + ")", house.back(0, set), true);
        doc.within(text + " tick", house.tick(0, 0), 0);
        doc.within(text + " out", house.out(0), out);
        doc.within(text + " stands", house.stands(0), then);
    }

    /** The last one of these ticks fails so, those before it do not. */
    private static void fails(String text, int how, int... inputs) {
        SignalHouse house = one(text);
        for (int i = 0; i < inputs.length; i++) {
            boolean last = i == inputs.length - 1;
            doc.beyond(text + " tick " + i + " with " + inputs[i], house.tick(0, inputs[i]), last ? how : 0);
        }
        doc.beyond(text + " ticks", house.ticks(0), inputs.length - 1);
    }

    private static void making() {
        doc.hold(6, "An INSTANCE of the k-th PROGRAM: its number 0, 1, ... NONE if there is none such, or 8 were made.");
        SignalHouse house = Check.house("A()x{0}B()x{!x;1}");
        int[] wrong = {-1, 2, 5, 6, MIN, MAX};
        for (int i = 0; i < 8; i++) {
            for (int k : wrong) {
                doc.beyond("make(" + k + ")", house.make(k), NONE);
            }
            doc.within("total(2)", house.total(2), i);
            doc.within("make " + i, house.make(i % 2), i);
        }
        doc.within("total(2)", house.total(2), 8);
        doc.within("the first one goes", house.tick(0, 0), 0);
        doc.within("it is of PROGRAM 0", house.stands(0), DONE);
        doc.within("the eighth one goes", house.tick(7, 0), 0);
        doc.within("it is of PROGRAM 1", house.stands(7), 1);
        for (int k = 0; k < 2; k++) {
            doc.beyond("a ninth", house.make(k), NONE);
            doc.beyond("total(2)", house.total(2), 8);
        }
        doc.within("the eighth one stays", house.out(7), 1);
        SignalHouse six = Check.house("A()x{0}B()x{0}C()x{0}D()x{0}E()x{0}F()x{1}");
        doc.within("make(5)", six.make(5), 0);
        doc.beyond("make(6)", six.make(6), NONE);
    }

    private static void inputs() {
        doc.hold(7, "An INSTANCE goes a tick with a set of INPUTS (the first one the lowest bit): 0, or 1 or 2, if it FAILS.");
        SignalHouse order = one("A(abc)x{*(?a(?b(0)(?c(0)(!x)))(0);1)}");
        for (int set = 0; set < 8; set++) {
            if (set == 1) {
                doc.within("tick with " + set, order.tick(0, set), 0);
                doc.within("out", order.out(0), 1);
            } else {
                doc.beyond("tick with " + set, order.tick(0, set), 0);
                doc.beyond("out", order.out(0), 0);
            }
        }

        doc.hold(7, "NONE if there is none such, or no such set.");
        for (int n = 0; n <= 25; n++) {
            String last = n == 0 ? "0" : "?" + LETTERS.charAt(n - 1) + "(!z)(0)";
            SignalHouse house = one("A(" + LETTERS.substring(0, n) + ")z{*(" + last + ";1)}");
            doc.within(n + " INPUTS, none of them", house.tick(0, 0), 0);
            doc.within("out", house.out(0), 0);
            doc.within(n + " INPUTS, all of them", house.tick(0, (1 << n) - 1), 0);
            doc.within("out", house.out(0), n == 0 ? 0 : 1);
            int[] wrong = {1 << n, (1 << n) + 1, 1 << 26, 1 << 30, -1, MIN, MAX};
            for (int set : wrong) {
                doc.beyond(n + " INPUTS, set " + set, house.tick(0, set), NONE);
                doc.beyond("ticks", house.ticks(0), 2);
            }
        }
        SignalHouse house = one("A(a)x{1}");
        for (int instance : new int[] {-1, 1, 7, 8, MIN, MAX}) {
            doc.beyond("tick(" + instance + ", 0)", house.tick(instance, 0), NONE);
        }
        doc.within("tick(0, 1)", house.tick(0, 1), 0);
        house.back(0, DONE);
        doc.within("tick(0, 1) of one that is done", house.tick(0, 1), 0);
        doc.beyond("tick(0, 2) of one that is done", house.tick(0, 2), NONE);
    }

    private static void failsWithOne() {
        doc.hold(7, "If an OUTPUT is ? then: the tick FAILS with 1.");
        goes("A()x{!x|?x(0)(0)}", 0, 1, DONE);
        goes("A()x{?x(0)(0)}", 0, 0, DONE);
        goes("A()xy{?x(!y)(0)}", 0, 0, DONE);
        goes("A()xy{?x(!y)(0);!y|!x}", 0, 3, DONE);
        goes("A(a)x{?a(?x(!x)(0))(0)}", 0, 0, DONE);
        fails("A()x{?x(!x)(0)}", 1, 0);
        fails("A()x{?x(0)(!x)}", 1, 0);
        fails("A()x{?x(!x)(!x)}", 1, 0);
        fails("A()x{?x(0)(0);!x}", 1, 0);
        fails("A(a)x{?a(?x(!x)(0))(0)}", 1, 1);
        fails("A(a)x{1;?a(?x(0)(!x))(0)}", 1, 1, 1);
        fails("A()xy{!x|?y(!y)(0)}", 1, 0);
        fails("A()xy{!y|?x(!x)(0)}", 1, 0);
        fails("A()x{@s(?s(!s)(0))|?x(!x)(0)}", 1, 0);
        fails("A()x{?x(!x)(0);@s(?s(0)(!s))}", 1, 0);
        fails("A()" + LETTERS + "{?z(!z)(0)}", 1, 0);
    }

    private static void failsWithTwo() {
        doc.hold(7, "each @ that is come to has its signal there, if MUST of its P (with ?) has it, not there, if CAN, SURE, "
            + "has it not, and else the tick FAILS with 2.");
        goes("A()x{@s(!s;?s(!x)(0))}", 0, 1, DONE);
        goes("A()x{@s(?s(0)(!x))}", 0, 1, DONE);
        goes("A(a)x{?a(@s(?s(!s)(0)))(0)}", 0, 0, DONE);
        goes("A()x{$T(.T;@s(?s(0)(!s)))}", 0, 0, DONE);
        goes("A()x{1;@s(?s(0)(!s))}", 0, 0, 1);
        goes("A(a)x{#a(1;@s(?s(0)(!s)))}", 0, 0, 1, 1, 0, 1);
        fails("A()x{@s(?s(!s)(0))}", 2, 0);
        fails("A()x{@s(?s(0)(!s))}", 2, 0);
        fails("A()x{@s(?s(!s)(!s))}", 2, 0);
        fails("A(a)x{?a(@s(?s(!s)(0)))(0)}", 2, 1);
        fails("A()x{$T(.T|@s(?s(0)(!s)))}", 2, 0);
        fails("A()x{1;@s(?s(0)(!s))}", 2, 0, 0);
        fails("A(a)x{#a(1;@s(?s(0)(!s)))}", 2, 0, 1, 0);
        fails("A()x{!x|@s(@t(?s(!t)(0)|?t(!s)(0)))}", 2, 0);
        fails("A()x{@s(1;?s(!s)(0))}", 2, 0, 0);
        fails("A()x{@s(0);@s(!s);@s(?s(!s)(0))}", 2, 0);
    }

    private static void failsChangeNothing() {
        doc.hold(7, "A tick that FAILS changes nothing.");
        String[] open = {"?x(0)(!x)", "@s(?s(0)(!s))"};
        for (int kind = 1; kind <= 2; kind++) {
            String fails = open[kind - 1];
            SignalHouse house = one("A(a)xy{?a(" + fails + ")(!y);1;?a(1|" + fails + ")(!x)}");
            for (int i = 0; i < 3; i++) {
                doc.beyond("begun with a", house.tick(0, 1), kind);
                doc.within("stands", house.stands(0), NOT_BEGUN);
                doc.within("out", house.out(0), 0);
                doc.within("ticks", house.ticks(0), 0);
            }
            doc.within("begun without a", house.tick(0, 0), 0);
            for (int i = 0; i < 3; i++) {
                doc.beyond("resumed with a", house.tick(0, 1), kind);
                doc.within("stands", house.stands(0), 1);
                doc.within("out", house.out(0), 2);
                doc.within("ticks", house.ticks(0), 1);
            }
            doc.within("resumed without a", house.tick(0, 0), 0);
            doc.within("out", house.out(0), 1);
            doc.within("stands", house.stands(0), DONE);
        }
    }

    private static void doneEmitsNothing() {
        doc.hold(7, "A PROGRAM that is done emits nothing.");
        goes("A(a)x{!x}", 0, 1, DONE, 0, 0, DONE, 1, 0, DONE);
        goes("A(a)x{?x(0)(0)}", 0, 0, DONE, 1, 0, DONE);
        SignalHouse house = one("A(a)x{?x(0)(!x)}");
        doc.beyond("one that has not begun", house.tick(0, 0), 1);
        doc.beyond("back(0, -3)", house.back(0, DONE), true);
        doc.within("one that is done", house.tick(0, 0), 0);
        doc.within("out", house.out(0), 0);
        doc.within("ticks", house.ticks(0), 1);
    }

    private static void settling() {
        doc.hold(7, "The INPUTS are known; OUTPUTS ? at first.");
        goes("A(a)xyz{?a(0)(?x(!y)(0))|!x|?y(!z)(0)}", 0, 7, DONE);
        goes("A(a)xyz{?a(0)(?x(!y)(0))|!x|?y(!z)(0)}", 1, 1, DONE);
        goes("A(a)xyz{?a(?x(!y)(0))(0)|!x|?y(!z)(0)}", 1, 7, DONE);
        fails("A(a)xyz{?a(?x(!y)(0))(?y(!x)(0))|?y(!z)(0)|?z(!x)(0)}", 1, 1);

        doc.hold(7, "until nothing new is known");
        StringBuilder chain = new StringBuilder();
        for (int i = 25; i > 0; i--) {
            chain.append('?').append(LETTERS.charAt(i - 1)).append("(!").append(LETTERS.charAt(i)).append(")(0)|");
        }
        goes("A()" + LETTERS + "{" + chain + "!a}", 0, (1 << 26) - 1, DONE);
        goes("A()" + LETTERS + "{" + chain + "0}", 0, 0, DONE);
        fails("A()" + LETTERS + "{" + chain + "?z(!a)(0)}", 1, 0);
        fails("A()" + LETTERS + "{" + chain + "?y(!a)(0)}", 1, 0);
    }

    private static void codes() {
        doc.hold(7, "the greater one of each one of P and each one of Q (none, if either has none).");
        goes("A()xy{(0|0);!x}", 0, 1, DONE);
        goes("A()xy{(0|1);!x}", 0, 0, 1, 0, 1, DONE);
        goes("A()xy{$T($U(.U|.T|1|0);!x);!y}", 0, 2, DONE);
        goes("A()xy{$T($U(.U|1|0);!x);!y}", 0, 3, DONE);
        goes("A(a)x{(?a(0)(0)|0);!x}", 0, 1, DONE);
        fails("A()x{(?x(0)(0)|0);!x}", 1, 0);
        fails("A()x{(0|?x(0)(0));!x}", 1, 0);
        goes("A()x{(1|?x(0)(0));!x}", 0, 0, 1, 0, 1, DONE);

        doc.hold(7, "One that doesn't stand, where the other one is RESUMED, is as 0.");
        goes("A()xy{(!y|1);!x}", 0, 2, 1, 0, 1, DONE);
        goes("A()xy{(1|!y|1;1);!x}", 0, 2, 3, 0, 0, 4, 0, 1, DONE);
        SignalHouse beside = one("A()xy{(1;!y|1);!x}");
        doc.beyond("back to both", beside.back(0, 3), true);
        doc.beyond("tick", beside.tick(0, 0), 0);
        doc.beyond("out", beside.out(0), 3);
        doc.within("back to the second one alone", beside.back(0, 2), true);
        doc.within("tick", beside.tick(0, 0), 0);
        doc.within("out", beside.out(0), 1);

        backTo("A(a)xy{$T(1;1|.T);!x}", 1, 0, 2);
        backTo("A(a)xy{1;1|*(!x;1)}", 1, 0, 2);
        backTo("A(a)xy{1;1|@s(?s(0)(!s))}", 1, 0, 2);
        backTo("A(a)xy{1;1|!x;1}", 1, 0, 2);

        doc.hold(7, "2 and how many TRAPS lie between the EXIT and its own one.");
        String deep = "A()xy{$T(" + "$U(".repeat(11) + "%s" + ");!x".repeat(11) + ");!y}";
        goes(String.format(deep, ".U"), 0, 3, DONE);
        goes(String.format(deep, ".T"), 0, 2, DONE);
        goes(String.format(deep, ".U|1"), 0, 3, DONE);
        goes(String.format(deep, ".T|.U"), 0, 2, DONE);
        goes(String.format(deep, "1"), 0, 0, 1, 0, 3, DONE);
        goes("A(a)xy{$T(%a(1;.T);!x);!y}", 0, 0, 3, 0, 2, DONE);
        goes("A(a)xy{$T(~a(1;.T);!x);!y}", 0, 0, 3, 0, 2, DONE);
        goes("A()xy{$T($T(.T;!x);!y)}", 0, 2, DONE);
        fails("A()xy{$T($U(.U);?x(!x)(0))}", 1, 0);

        doc.hold(7, "a PROGRAM with CODE 0 is done.");
        goes("A()x{0}", 0, 0, DONE);
        goes("A()x{1}", 0, 0, 1, 0, 0, DONE);
        goes("A()x{$T(1|.T)}", 0, 0, DONE);
        SignalHouse stands = one("A()x{0|1}");
        doc.beyond("tick", stands.tick(0, 0), 0);
        doc.beyond("CODE 1 stands", stands.stands(0), 1);

        doc.hold(7, "* : begun: as P. RESUMED: as P ; P with the second one begun.");
        goes("A()xy{*(!x;1;!y)}", 0, 1, 1, 0, 3, 1, 0, 3, 1);
        goes("A()xy{*(1;!x;1;!y)}", 0, 0, 1, 0, 1, 2, 0, 2, 1);
        fails("A()x{*(1;?x(!x)(0))}", 1, 0, 0);
    }

    private static void toldForOthers() {
        doc.hold(7, "& letter (await): $ T ( * ( 1 ; ? letter ( . T ) ( 0 ) ) ). ^ letter (sustain): * ( ! letter ; 1 ).");
        goes("A(a)x{&a;!x}", 1, 0, 1, 0, 0, 1, 1, 1, DONE);
        goes("A(a)x{^x}", 0, 1, 1, 1, 1, 1);
        fails("A()x{&x;?x(0)(!x)}", 1, 0, 0);

        doc.hold(7, "% letter ( P ) (abort): $ T ( ( # letter ( P ) ; . T ) | * ( 1 ; ? letter ( . T ) ( 0 ) ) ). "
            + "~ letter ( P ) (weak abort): $ T ( ( P ; . T ) | * ( 1 ; ? letter ( . T ) ( 0 ) ) )");
        goes("A(a)xy{%a(!x;1;!x;1);!y}", 1, 1, 5, 1, 2, DONE);
        goes("A(a)xy{~a(!x;1;!x;1);!y}", 1, 1, 5, 1, 3, DONE);
        goes("A(a)xy{%a(!x;1;!x;1);!y}", 1, 1, 5, 0, 1, 6, 0, 2, DONE);
        goes("A(a)xy{~a(!x;1;!x;1);!y}", 1, 1, 5, 0, 1, 6, 1, 2, DONE);
        goes("A(a)xy{%a(!x);!y}", 1, 3, DONE);
        goes("A(a)xy{~a(!x);!y}", 1, 3, DONE);
        fails("A()x{%x(1;!x)}", 1, 0, 0);
        goes("A()x{~x(1;!x)}", 0, 0, 3, 0, 1, DONE);
    }

    private static void suspending() {
        doc.hold(7, "# begun: as P. RESUMED: if its signal is there, CODE 1; if not, as P");
        goes("A(a)xy{#a(!x;1;!y)}", 1, 1, 1, 1, 0, 1, 0, 2, DONE);
        goes("A(a)xy{#a(!x);!y}", 1, 3, DONE);
        goes("A(a)xy{#a(1);!y}", 1, 0, 1, 1, 0, 1, 0, 2, DONE);
        SignalHouse house = one("A(a)xy{#a(1;!y)}");
        house.tick(0, 0);
        doc.beyond("tick with a", house.tick(0, 1), 0);
        doc.beyond("out", house.out(0), 0);
        doc.beyond("stands", house.stands(0), 1);

        doc.hold(7, "?: MUST has nothing, CAN is that of P, not SURE, and CODE 1.");
        goes("A()xy{#x(1);!y}", 0, 0, 1, 0, 2, DONE);
        goes("A()xy{#x(1;!y)|1;!x;1}", 0, 0, 3, 0, 1, 5, 0, 2, DONE);
        fails("A()x{#x(1;!x)}", 1, 0, 0);
        fails("A()x{#x(1);!x}", 1, 0, 0);
        fails("A()xy{#x(1)|1;?x(0)(!x)}", 1, 0, 0);

        doc.hold(7, "and at those of # whose signal is there when RESUMED, as they were");
        goes("A(a)x{1;1|#a(1)|1;1}", 0, 0, 13, 1, 0, 22);
        goes("A(a)x{$T(#a(1));1}", 0, 0, 1, 1, 0, 1, 0, 0, 2);
        goes("A(a)x{#a(1;1|1;1)|1;1}", 0, 0, 21, 1, 0, 37, 1, 0, 5, 0, 0, 10);
        SignalHouse as = one("A(a)x{#a(1;1|1;1)}");
        for (int set : new int[] {1, 2, 4, 8, 5, 6, 9, 10}) {
            doc.within("back(0, " + set + ")", as.back(0, set), true);
            doc.within("tick with a", as.tick(0, 1), 0);
            doc.within("stands", as.stands(0), set);
        }
        doc.beyond("tick without a", as.tick(0, 0), 0);
        doc.beyond("stands", as.stands(0), DONE);
    }

    private static void sureOrNot() {
        doc.hold(7, "without that MUST has nothing, CAN is that of both, not SURE");
        goes("A()xy{" + LEARNS + "|?y(0)(!x)}", 0, 1, DONE);
        goes("A()xy{?x(@s(?s(!y)(0)))(0)|?y(0)(!x)}", 0, 1, DONE);
        fails("A()xy{?x(" + LEARNS + ")(0)|?y(0)(!x)}", 1, 0);
        fails("A()xy{?x(0)(" + LEARNS + ")|?y(0)(!x)}", 1, 0);
        fails("A()xy{@t(?x(" + LEARNS + ")(0))|?y(0)(!x)}", 1, 0);

        doc.hold(7, "CAN, not SURE: if CAN of P, not SURE, has it not, that of P with it not there; else that of P with ?.");
        goes("A()xy{?x(@s(?s(!y)(0);0))(0)|?y(0)(!x)}", 0, 1, DONE);
        goes("A()xy{?x(@s(@t(?s(!t)(0)|?t(!y)(0))))(0)|?y(0)(!x)}", 0, 1, DONE);
        fails("A()xy{?x(@s(!s;?s(!y)(0)))(0)|?y(0)(!x)}", 1, 0);
        fails("A()xy{?x(@s(!s|@t(?s(!t)(0)|?t(0)(!y))))(0)|?y(0)(!x)}", 1, 0);

        doc.hold(7, "(SURE, if it was asked SURE and MUST of P has CODE 0)");
        goes("A()xy{0;" + LEARNS + "|?y(0)(!x)}", 0, 1, DONE);
        goes("A(a)xy{?a(0)(0);" + LEARNS + "|?y(0)(!x)}", 0, 1, DONE);
        fails("A()xy{?x(0)(0);" + LEARNS + "|?y(0)(!x)}", 1, 0);
        fails("A()xy{?x(0)(0);0;" + LEARNS + "|?y(0)(!x)}", 1, 0);
        fails("A()xy{?x(0;" + LEARNS + ")(0)|?y(0)(!x)}", 1, 0);
        fails("A()xy{*(1;?x(0)(0);" + LEARNS + ";1)|1;?y(0)(!x)}", 1, 0, 0);
    }

    private static void locals() {
        doc.hold(7, "(Its signal is not told beyond.)");
        goes("A()xy{@s(!s;1)|@s(?s(!x)(!y))}", 0, 2, 1);
        goes("A()xy{@s(!s);@s(?s(!x)(!y))}", 0, 2, DONE);
        goes("A()xy{@s(!s;1;?s(!x)(!y))}", 0, 0, 1, 0, 2, DONE);
        goes("A()xy{*(@s(?s(!x)(!y);1;!s))}", 0, 2, 1, 0, 2, 1);
        SignalHouse house = one("A()xy{@s(!s|?s(!x)(!y))}");
        doc.beyond("within it", house.tick(0, 0), 0);
        doc.beyond("out", house.out(0), 1);
        goes("A()xy{@s(@t(@u(@v(!s|?s(!t)(0)|?t(!u)(0)|?u(!v)(0)|?v(!x)(!y)))))}", 0, 1, DONE);
    }

    private static void standing() {
        doc.hold(7, "an EXIT takes all away that is within its TRAP");
        goes("A()x{$T(1|1;.T)|1;1}", 0, 0, 7, 0, 0, 8, 0, 0, DONE);
        goes("A()x{$T((1;1)|(1;.T));1}", 0, 0, 5, 0, 0, 8);
        goes("A()x{$T($U(1;1|1;.U);1|1;1)}", 0, 0, 5 | 16, 0, 0, 8 | 32, 0, 0, DONE);
        goes("A()x{$T($U(1;1|1;.T);1|1;1);1}", 0, 0, 5 | 16, 0, 0, 64);
        goes("A(a)x{$T(#a(1)|1;.T);1}", 0, 0, 3, 1, 0, 4);
        SignalHouse house = one("A()x{$T(1|.T);1}");
        doc.beyond("tick", house.tick(0, 0), 0);
        doc.beyond("what is not within stands", house.stands(0), 2);
    }

    private static void out() {
        doc.hold(8, "The set of OUTPUTS (the first one the lowest bit) that were there in the latest tick of an INSTANCE "
            + "that did not FAIL (0 ahead of any)");
        SignalHouse house = one("A(a)xyz{!z;*(1;?a(?x(0)(!x))(!y))}");
        doc.within("ahead of any", house.out(0), 0);
        house.tick(0, 0);
        doc.beyond("the first tick", house.out(0), 4);
        house.tick(0, 1);
        doc.within("a tick that FAILS", house.out(0), 4);
        house.tick(0, 0);
        doc.beyond("the next one that does not", house.out(0), 2);
        house.tick(0, 2);
        doc.within("a tick that is none", house.out(0), 2);
        SignalHouse never = one("A()x{?x(0)(!x)}");
        never.tick(0, 0);
        doc.within("ahead of any that did not FAIL", never.out(0), 0);
        for (int i = 0; i < 26; i++) {
            goes("A()" + LETTERS + "{!" + LETTERS.charAt(i) + "}", 0, 1 << i, DONE);
        }
        goes("A(" + LETTERS.substring(0, 25) + ")z{!z}", (1 << 25) - 1, 1, DONE);

        doc.hold(8, "NONE if there is none such.");
        for (int instance : new int[] {-1, 1, 7, 8, MIN, MAX}) {
            doc.beyond("out(" + instance + ")", house.out(instance), NONE);
        }
        doc.within("out(0)", house.out(0), 2);
        eight(8);
    }

    /** Eight instances, each of its own: the last one is there, the next one not. */
    private static void eight(int promise) {
        SignalHouse house = Check.house("A()x{!x;1}");
        for (int i = 0; i < 8; i++) {
            int before = promise == 8 ? house.out(i) : promise == 9 ? house.stands(i) : house.ticks(i);
            doc.beyond("of " + i + " ahead of its make()", before, NONE);
            house.make(0);
        }
        house.tick(7, 0);
        int seventh = promise == 8 ? house.out(6) : promise == 9 ? house.stands(6) : house.ticks(6);
        int eighth = promise == 8 ? house.out(7) : promise == 9 ? house.stands(7) : house.ticks(7);
        doc.within("of 6", seventh, promise == 9 ? NOT_BEGUN : 0);
        doc.within("of 7", eighth, 1);
    }

    private static void stands() {
        doc.hold(9, "The set of PAUSES at which an INSTANCE stands; NONE if there is none such, -2 if it has not begun, -3 if it is done.");
        String thirty = "1" + "|1".repeat(29);
        goes("A()x{" + thirty + "}", 0, 0, (1 << 30) - 1, 0, 0, DONE);
        goes("A()x{" + "1;".repeat(29) + "1}", 0, 0, 1, 0, 0, 2);
        SignalHouse house = one("A()x{" + "1;".repeat(29) + "1}");
        doc.within("has not begun", house.stands(0), NOT_BEGUN);
        for (int i = 0; i < 30; i++) {
            house.tick(0, 0);
            doc.within("behind tick " + i, house.stands(0), 1 << i);
        }
        house.tick(0, 0);
        doc.within("is done", house.stands(0), DONE);
        for (int instance : new int[] {-1, 1, 7, 8, MIN, MAX}) {
            doc.beyond("stands(" + instance + ")", house.stands(instance), NONE);
        }
        eight(9);
    }

    private static void back() {
        doc.hold(10, "An INSTANCE stands there from now on (a set that is one of those that stands() tells of its PROGRAM, "
            + "-2 and -3 too; what was there in its latest tick stays): true");
        SignalHouse house = one("A()xyz{!z;1;!x;1;!y}");
        house.tick(0, 0);
        int[] sets = {2, 1, DONE, NOT_BEGUN};
        int[] then = {DONE, 2, DONE, 1};
        int[] outs = {2, 1, 0, 4};
        int before = 4;
        for (int i = 0; i < sets.length; i++) {
            doc.within("back(0, " + sets[i] + ")", house.back(0, sets[i]), true);
            doc.within("stands", house.stands(0), sets[i]);
            doc.within("out stays", house.out(0), before);
            doc.within("ticks stay", house.ticks(0), i + 1);
            doc.within("tick", house.tick(0, 0), 0);
            doc.within("out", house.out(0), outs[i]);
            doc.within("stands", house.stands(0), then[i]);
            before = outs[i];
        }
        for (int set : new int[] {-4, -5, -1, MIN, MIN + 1}) {
            doc.beyond("back(0, " + set + ")", house.back(0, set), false);
            doc.beyond("stands", house.stands(0), 1);
        }
        house.make(0);
        house.back(0, DONE);
        doc.beyond("another INSTANCE", house.stands(1), NOT_BEGUN);

        doc.hold(10, "false if there is none such");
        for (int instance : new int[] {-1, 2, 7, 8, MIN, MAX}) {
            doc.beyond("back(" + instance + ", 1)", house.back(instance, 1), false);
            doc.beyond("back(" + instance + ", -2)", house.back(instance, NOT_BEGUN), false);
        }
        doc.within("back(1, 1)", house.back(1, 1), true);

        doc.hold(10, "or a set of none");
        doc.beyond("back(1, 0)", house.back(1, 0), false);
        doc.beyond("stands", house.stands(1), 1);
        SignalHouse without = one("A()x{0}");
        doc.beyond("back(0, 0) without PAUSES", without.back(0, 0), false);
        doc.within("back(0, -3) without PAUSES", without.back(0, DONE), true);
        doc.within("back(0, -2) without PAUSES", without.back(0, NOT_BEGUN), true);

        doc.hold(10, "one with a PAUSE that there is not");
        doc.beyond("back(0, 1) without PAUSES", without.back(0, 1), false);
        for (int n = 1; n <= 30; n++) {
            SignalHouse beside = one("A()x{1" + "|1".repeat(n - 1) + "}");
            int all = (1 << n) - 1;
            doc.within(n + " PAUSES, the last one", beside.back(0, 1 << (n - 1)), true);
            doc.within(n + " PAUSES, all of them", beside.back(0, all), true);
            int[] wrong = {1 << n, all | 1 << n, 1 << n | 1, MIN, MIN | 1, -1, n == 30 ? -4 : 1 << 30, n == 30 ? MIN + 1 : MAX};
            for (int set : wrong) {
                doc.beyond(n + " PAUSES, set " + set, beside.back(0, set), false);
                doc.beyond("stands", beside.stands(0), all);
            }
        }
    }

    private static void canBe(String body, int... sets) {
        SignalHouse house = one("A(a)x{" + body + "}");
        int pauses = house.program(0, 3);
        for (int set = 1; set < 1 << pauses; set++) {
            boolean can = false;
            for (int one : sets) {
                can |= one == set;
            }
            house.back(0, NOT_BEGUN);
            if (can) {
                doc.within("back(0, " + set + ") of " + body, house.back(0, set), true);
                doc.within("stands", house.stands(0), set);
                doc.within("it goes on", house.tick(0, 0), 0);
            } else {
                doc.beyond("back(0, " + set + ") of " + body, house.back(0, set), false);
                doc.beyond("stands", house.stands(0), NOT_BEGUN);
            }
        }
    }

    private static void backCannotBe() {
        doc.hold(10, "or one that can't be (two PAUSES of parts that are one behind the other, or of both of a ?).");
        canBe("1|1", 1, 2, 3);
        canBe("1;1", 1, 2);
        canBe("1;1;1", 1, 2, 4);
        canBe("?a(1)(1)", 1, 2);
        canBe("*(1;1)", 1, 2);
        canBe("(1|1);1", 1, 2, 3, 4);
        canBe("1;(1|1)", 1, 2, 4, 6);
        canBe("?a(1|1)(1)", 1, 2, 3, 4);
        canBe("?a(1)(1;1)", 1, 2, 4);
        canBe("1;1|1", 1, 2, 4, 5, 6);
        canBe("(1;1);1", 1, 2, 4);
        canBe("$T(1;.T;1)", 1, 2);
        canBe("#a(@s($T(1;1)))", 1, 2);
        canBe("&a;&a", 1, 2);
        canBe("&a|^x", 1, 2, 3);
        canBe("%a(1)", 1, 2, 3);
        canBe("%a(1;1)", 1, 2, 4, 5, 6);
        canBe("~a(1;1)", 1, 2, 4, 5, 6);
        canBe("%a(1);1", 1, 2, 3, 4);
        canBe("~a(?a(1)(1))", 1, 2, 4, 5, 6);
    }

    private static void ticks() {
        doc.hold(11, "How many ticks of an INSTANCE did not FAIL");
        SignalHouse house = one("A(a)x{1;1;?a(?x(0)(!x))(0)}");
        doc.within("ahead of any", house.ticks(0), 0);
        int[] inputs = {1, 1, 1, 1, 2, 0, 1, 0};
        int[] after = {1, 2, 2, 2, 2, 3, 4, 5};
        for (int i = 0; i < inputs.length; i++) {
            int answered = house.tick(0, inputs[i]);
            if (answered == 0) {
                doc.within("ticks behind tick " + i, house.ticks(0), after[i]);
            } else {
                doc.beyond("ticks behind tick " + i, house.ticks(0), after[i]);
            }
        }
        house.back(0, NOT_BEGUN);
        doc.within("ticks behind back()", house.ticks(0), 5);

        doc.hold(11, "NONE if there is none such.");
        for (int instance : new int[] {-1, 1, 7, 8, MIN, MAX}) {
            doc.beyond("ticks(" + instance + ")", house.ticks(instance), NONE);
        }
        eight(11);
    }

    private static void manyCalls() {
        doc.hold(11, "An object is used for at most 512 calls after it has been made; what later calls answer is free.");
        SignalHouse house = new SignalHouse();
        doc.within("call 1", house.type(Check.word("A()x{1}"), 7), true);
        doc.within("call 2", Check.module(house), 1);
        doc.within("call 3", house.make(0), 0);
        for (int call = 4; call <= 511; call++) {
            doc.within("call " + call, house.tick(0, 0), 0);
        }
        doc.within("call 512", house.ticks(0), 508);
        int thrown = 0;
        try {
            house.tick(0, 0);
            house.ticks(0);
        } catch (RuntimeException e) {
            thrown++;
        }
        doc.beyond("calls 513 and 514 answer something", thrown, 0);
    }
}
