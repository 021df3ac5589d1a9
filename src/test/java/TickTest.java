/** Promises 6 to 11: instances, their ticks, what was there, where they stand, and setting them back. */
public final class TickTest {
    private static final Check CHECK = new Check();
    private static final int NOT_BEGUN = -2;
    private static final int DONE = -3;

    public static void main(String[] args) {
        making();
        wrongInstances();
        wrongInputs();
        plainStatements();
        questions();
        rows();
        loops();
        sideBySide();
        suspended();
        traps();
        toldForOthers();
        locals();
        fails();
        sureOrNot();
        failsChangeNothing();
        doneStaysDone();
        backTo();
        backRefuses();
        backKeepsTheRest();
        counting();
        manySignals();
        deepest();
        CHECK.end();
    }

    /** Each step is three numbers: the inputs, what is there then, and where it stands then. */
    private static void goes(String text, int... steps) {
        SignalHouse house = Check.house(text);
        house.make(0);
        for (int i = 0; i + 2 < steps.length; i += 3) {
            String call = text + " tick " + i / 3 + " with " + steps[i];
            CHECK.due(call, house.tick(0, steps[i]), 0);
            CHECK.due(call + ": out", house.out(0), steps[i + 1]);
            CHECK.due(call + ": stands", house.stands(0), steps[i + 2]);
            CHECK.due(call + ": ticks", house.ticks(0), i / 3 + 1);
        }
    }

    private static void failsWith(String text, int inputs, int how) {
        SignalHouse house = Check.house(text);
        house.make(0);
        CHECK.due(text + " tick with " + inputs, house.tick(0, inputs), how);
        CHECK.due(text + " ticks", house.ticks(0), how == 0 ? 1 : 0);
    }

    private static void making() {
        SignalHouse house = Check.house("A()x{0}B()x{1}");
        for (int i = 0; i < 8; i++) {
            CHECK.due("make(-1)", house.make(-1), -1);
            CHECK.due("make(2)", house.make(2), -1);
            CHECK.due("make " + i, house.make(i % 2), i);
            CHECK.due("stands(" + i + ")", house.stands(i), NOT_BEGUN);
            CHECK.due("out(" + i + ")", house.out(i), 0);
            CHECK.due("ticks(" + i + ")", house.ticks(i), 0);
        }
        CHECK.due("a ninth", house.make(0), -1);
        CHECK.due("total(2)", house.total(2), 8);
        CHECK.due("make(MIN)", house.make(Integer.MIN_VALUE), -1);
        CHECK.due("make(MAX)", house.make(Integer.MAX_VALUE), -1);
        house.tick(0, 0);
        house.tick(1, 0);
        CHECK.due("of program 0", house.stands(0), DONE);
        CHECK.due("of program 1", house.stands(1), 1);
        CHECK.due("one by itself", house.stands(2), NOT_BEGUN);
        Check.load(house, "A()x{0}");
        CHECK.due("again from 0 on", house.make(0), 0);
    }

    private static void wrongInstances() {
        SignalHouse house = Check.house("A()x{1}");
        house.make(0);
        int[] wrong = {-1, 1, 7, 8, Integer.MIN_VALUE, Integer.MAX_VALUE};
        for (int i : wrong) {
            CHECK.due("tick(" + i + ", 0)", house.tick(i, 0), -1);
            CHECK.due("out(" + i + ")", house.out(i), -1);
            CHECK.due("stands(" + i + ")", house.stands(i), -1);
            CHECK.due("ticks(" + i + ")", house.ticks(i), -1);
            CHECK.due("back(" + i + ", 1)", house.back(i, 1), false);
        }
    }

    private static void wrongInputs() {
        SignalHouse house = Check.house("A(ab)x{1}B()x{1}");
        house.make(0);
        house.make(1);
        int[] wrong = {-1, 4, 5, 8, Integer.MIN_VALUE, Integer.MAX_VALUE};
        for (int set : wrong) {
            CHECK.due("tick(0, " + set + ")", house.tick(0, set), -1);
        }
        CHECK.due("tick(1, 1)", house.tick(1, 1), -1);
        CHECK.due("nothing came of it", house.stands(0), NOT_BEGUN);
        CHECK.due("tick(0, 3)", house.tick(0, 3), 0);
        house.back(0, DONE);
        CHECK.due("tick(0, 4) when done", house.tick(0, 4), -1);
    }

    private static void plainStatements() {
        goes("A()x{0}", 0, 0, DONE);
        goes("A()x{1}", 0, 0, 1, 0, 0, DONE);
        goes("A()xy{!y}", 0, 2, DONE);
        goes("A()xy{!x|!y;!x}", 0, 3, DONE);
        goes("A()x{(((1)))}", 0, 0, 1, 0, 0, DONE);
    }

    private static void questions() {
        goes("A(ab)xy{?b(!y)(!x)}", 1, 1, DONE);
        goes("A(ab)xy{?b(!y)(!x)}", 2, 2, DONE);
        goes("A(a)xy{?a(1;!x)(1;!y)}", 1, 0, 1, 0, 1, DONE);
        goes("A(a)xy{?a(1;!x)(1;!y)}", 0, 0, 2, 1, 2, DONE);
        goes("A()xy{!x|?x(!y)(0)}", 0, 3, DONE);
        goes("A()xy{?x(!y)(0)}", 0, 0, DONE);
    }

    private static void rows() {
        goes("A()xyz{!x;1;!y;1;!z}", 0, 1, 1, 0, 2, 2, 0, 4, DONE);
        goes("A(a)xy{(1;1);!x;(?a(1)(!y));1}", 0, 0, 1, 0, 0, 2, 1, 1, 4, 0, 0, 8, 0, 0, DONE);
        goes("A(a)xy{(1;1);!x;(?a(1)(!y));1}", 0, 0, 1, 0, 0, 2, 0, 3, 8);
        goes("A()x{" + "1;".repeat(29) + "1;!x}", 0, 0, 1, 0, 0, 2, 0, 0, 4);
    }

    private static void loops() {
        goes("A()x{*(!x;1)}", 0, 1, 1, 0, 1, 1, 0, 1, 1);
        goes("A()xy{*(!x;1;!y;1)}", 0, 1, 1, 0, 2, 2, 0, 1, 1);
        goes("A()xy{*(1;!y)}", 0, 0, 1, 0, 2, 1);
        goes("A(a)x{*(*(?a(!x)(0);1))}", 1, 1, 1, 0, 0, 1);
        goes("A()x{$T(*(1;!x;.T;1));1}", 0, 0, 1, 0, 1, 4, 0, 0, DONE);
    }

    private static void sideBySide() {
        goes("A()xy{1;!x|1;1;!y}", 0, 0, 3, 0, 1, 4, 0, 2, DONE);
        goes("A()x{(0|1);!x}", 0, 0, 1, 0, 1, DONE);
        goes("A(a)xyz{(?a(1)(0)|?a(0)(1)|!x);!y}", 0, 1, 2, 0, 2, DONE);
    }

    private static void suspended() {
        goes("A(a)xy{#a(!x;1;!y;1)}", 1, 1, 1, 1, 0, 1, 0, 2, 2, 1, 0, 2, 0, 0, DONE);
        goes("A(a)xy{#a(1;1|1)|1;!y}", 0, 0, 13, 1, 2, 5, 0, 0, 2, 1, 0, 2, 0, 0, DONE);
        goes("A(ab)x{#a(#b(1;!x))}", 0, 0, 1, 2, 0, 1, 1, 0, 1, 3, 0, 1, 0, 1, DONE);
        goes("A(a)x{*(#a(1);!x)}", 0, 0, 1, 0, 1, 1, 1, 0, 1, 0, 1, 1);
        goes("A()x{#x(1)|1;!x;1}", 0, 0, 3, 0, 1, 5, 0, 0, DONE);
    }

    private static void traps() {
        goes("A(a)xy{$T($U(?a(.T)(.U);!x);!y)}", 0, 2, DONE);
        goes("A(a)xy{$T($U(?a(.T)(.U);!x);!y)}", 1, 0, DONE);
        goes("A()xy{$T($T(.T;!x);!y)}", 0, 2, DONE);
        goes("A()xy{$T($U(.U|.T);!x);!y}", 0, 2, DONE);
        goes("A()x{$T(1|.T);!x}", 0, 1, DONE);
        goes("A()x{$T(1|1;.T);1}", 0, 0, 3, 0, 0, 4, 0, 0, DONE);
        goes("A()x{$T((1;1)|(1;.T));1}", 0, 0, 5, 0, 0, 8);
        goes("A()x{$T($U((1;1)|(1;.T))|1;1);!x}", 0, 0, 13, 0, 1, DONE);
        goes("A()xy{$T(!x|.T|!y;1);1}", 0, 3, 2);
        goes("A(a)x{$T(#a(1)|1;.T);!x}", 0, 0, 3, 1, 1, DONE);
        goes("A()xy{$T($U($V(.T|.U|.V);!x);!x);!y}", 0, 2, DONE);
        goes("A()xy{$T(" + "$U(".repeat(11) + ".T" + ");!x".repeat(11) + ");!y}", 0, 2, DONE);
        goes("A()xy{$T(" + "$U(".repeat(11) + ".U" + ");!x".repeat(11) + ");!y}", 0, 3, DONE);
    }

    private static void toldForOthers() {
        goes("A(a)x{&a;!x}", 1, 0, 1, 0, 0, 1, 1, 1, DONE);
        goes("A()x{^x}", 0, 1, 1, 0, 1, 1);
        goes("A(a)xy{%a(!x;1;!x);!y}", 1, 1, 3, 1, 2, DONE);
        goes("A(a)xy{%a(!x;1;!x);!y}", 1, 1, 3, 0, 3, DONE);
        goes("A(a)xy{~a(!x;1;!x;1);!y}", 1, 1, 5, 1, 3, DONE);
        goes("A(a)xy{~a(!x;1;!x;1);!y}", 0, 1, 5, 0, 1, 6, 0, 2, DONE);
        goes("A(ab)xy{%a(%b(^x);!y)}", 0, 1, 7, 2, 2, DONE);
        goes("A(ab)xy{%a(%b(^x);!y)}", 0, 1, 7, 3, 0, DONE);
        goes("A(a)xy{$T(%a(1;.T);!x);!y}", 0, 0, 3, 0, 2, DONE);
        goes("A(a)xy{$T(%a(1;.T);!x);!y}", 0, 0, 3, 1, 3, DONE);
        goes("A(a)xy{$T(~a(1;.T);!x);!y}", 0, 0, 3, 1, 2, DONE);
        goes("A(a)x{*(&a;!x)}", 1, 0, 1, 1, 1, 1, 0, 0, 1, 1, 1, 1);
    }

    private static void locals() {
        goes("A()xy{@s(!s|?s(!x)(!y))}", 0, 1, DONE);
        goes("A()xy{@s(?s(!x)(!y))}", 0, 2, DONE);
        goes("A()xy{*(@s(?s(!x)(!y);1;!s))}", 0, 2, 1, 0, 2, 1, 0, 2, 1);
        goes("A()xy{*(@s(!s;1)|@s(?s(!x)(!y);1))}", 0, 2, 3, 0, 2, 3);
        goes("A(a)xy{@s(&a;!s|*(1;?s(!x)(!y)))}", 1, 0, 3, 0, 2, 3, 1, 1, 2, 0, 2, 2);
        goes("A()xy{@s(@t(@u(@v(!s|?s(!t)(0)|?t(!u)(0)|?u(!v)(0)|?v(!x)(!y)))))}", 0, 1, DONE);
        goes("A()x{@s(#s(1;!x)|1;!s;1)}", 0, 0, 3, 0, 0, 5, 0, 1, DONE);
    }

    private static void fails() {
        failsWith("A()x{?x(!x)(0)}", 0, 1);
        failsWith("A()x{?x(0)(!x)}", 0, 1);
        failsWith("A()x{?x(!x)(!x)}", 0, 1);
        failsWith("A()xy{?x(!y)(0)|?y(!x)(0)}", 0, 1);
        failsWith("A()x{@s(?s(!s;!x)(0))}", 0, 1);
        failsWith("A()x{@s(?s(!s)(0));!x}", 0, 1);
        failsWith("A()x{@s(?s(!s)(0))}", 0, 2);
        failsWith("A()x{@s(?s(0)(!s))}", 0, 2);
        failsWith("A()x{!x|@s(?s(0)(!s))}", 0, 2);
        failsWith("A(a)x{?a(@s(?s(0)(!s)))(0)}", 1, 2);
        failsWith("A(a)x{?a(@s(?s(0)(!s)))(0)}", 0, 0);
        failsWith("A()x{$T(.T;@s(?s(0)(!s)))}", 0, 0);
        failsWith("A()x{$T(.T|@s(?s(0)(!s)))}", 0, 2);
        failsWith("A()x{@s(@t(?s(!t)(0)|?t(!s)(0)))}", 0, 2);
        failsWith("A()x{@s(!s);@s(?s(0)(!s))}", 0, 2);
        failsWith("A()x{@s(0);@s(?s(0)(!s))}", 0, 2);
        failsWith("A()x{@s(?s(0)(0));@s(?s(!s)(0))}", 0, 2);
        failsWith("A()x{?x(0)(0);!x}", 0, 1);
        failsWith("A()x{!x;?x(0)(0);!x}", 0, 0);
        failsWith("A()x{1;?x(0)(!x)}", 0, 0);
    }

    private static void sureOrNot() {
        String inner = "@s(!s;?s(0)(!y))";
        failsWith("A()xy{0;" + inner + "|?y(0)(!x)}", 0, 0);
        failsWith("A()xy{?x(" + inner + ")(0)|?y(0)(!x)}", 0, 1);
        failsWith("A()xy{?x(0)(0);" + inner + "|?y(0)(!x)}", 0, 1);
        failsWith("A()xy{?x(0)(0);0;" + inner + "|?y(0)(!x)}", 0, 1);
        failsWith("A()xy{@t(?x(" + inner + ")(0))|?y(0)(!x)}", 0, 1);
        failsWith("A()xy{?x(@s(?s(!y)(0)))(0)|?y(0)(!x)}", 0, 0);
        SignalHouse house = Check.house("A()xy{#x(1;" + inner + ")|1;?y(0)(!x)}B()xy{#x(1;@s(?s(!y)(0)))|1;?y(0)(!x)}");
        house.make(0);
        house.make(1);
        CHECK.due("begun", house.tick(0, 0), 0);
        CHECK.due("suspended, not sure", house.tick(0, 0), 1);
        CHECK.due("begun", house.tick(1, 0), 0);
        CHECK.due("suspended, not there even so", house.tick(1, 0), 0);
        CHECK.due("out", house.out(1), 1);
        CHECK.due("stands", house.stands(1), 1);
    }

    private static void failsChangeNothing() {
        SignalHouse house = Check.house("A(a)xy{!y;1;?a(?x(0)(!x))(!x)}");
        house.make(0);
        house.tick(0, 1);
        for (int i = 0; i < 3; i++) {
            CHECK.due("it fails", house.tick(0, 1), 1);
            CHECK.due("stands", house.stands(0), 1);
            CHECK.due("out", house.out(0), 2);
            CHECK.due("ticks", house.ticks(0), 1);
        }
        CHECK.due("it goes on", house.tick(0, 0), 0);
        CHECK.due("out then", house.out(0), 1);
        CHECK.due("ticks then", house.ticks(0), 2);
        SignalHouse never = Check.house("A()x{?x(0)(!x)}");
        never.make(0);
        CHECK.due("it fails", never.tick(0, 0), 1);
        CHECK.due("not begun", never.stands(0), NOT_BEGUN);
        CHECK.due("out ahead of any", never.out(0), 0);
    }

    private static void doneStaysDone() {
        goes("A(a)x{!x}", 0, 1, DONE, 1, 0, DONE, 0, 0, DONE);
    }

    private static void backTo() {
        SignalHouse house = Check.house("A(a)xyz{1;!x;1;!y|1;!z}");
        house.make(0);
        int[] sets = {1, 2, 4, 5, 6};
        int[] outs = {1, 2, 4, 5, 6};
        int[] then = {2, DONE, DONE, 2, DONE};
        for (int i = 0; i < sets.length; i++) {
            CHECK.due("back(0, " + sets[i] + ")", house.back(0, sets[i]), true);
            CHECK.due("stands", house.stands(0), sets[i]);
            CHECK.due("tick", house.tick(0, 0), 0);
            CHECK.due("out", house.out(0), outs[i]);
            CHECK.due("stands then", house.stands(0), then[i]);
        }
        CHECK.due("back(0, -2)", house.back(0, NOT_BEGUN), true);
        CHECK.due("stands", house.stands(0), NOT_BEGUN);
        CHECK.due("tick", house.tick(0, 0), 0);
        CHECK.due("stands then", house.stands(0), 5);
        CHECK.due("back(0, -3)", house.back(0, DONE), true);
        CHECK.due("tick", house.tick(0, 0), 0);
        CHECK.due("out of one that is done", house.out(0), 0);
        CHECK.due("stands then", house.stands(0), DONE);
    }

    private static void backRefuses() {
        SignalHouse house = Check.house("A(a)x{1;1|?a(1)(1)|1}B(a)x{*($T(@s(#a(1;(1|1)))));1}C(a)x{%a(1;1)|0}D()x{0}");
        for (int k = 0; k < 4; k++) {
            house.make(k);
        }
        int[][] refused = {
            {0, -1, -4, 3, 12, 7, 31, 32, 33, Integer.MIN_VALUE, Integer.MAX_VALUE, 1 << 30},
            {0, 3, 5, 7, 9, 14, 15, 16, -1},
            {0, 3, 7, 8, -5},
            {0, 1, 2, -1}};
        int[][] taken = {{1, 2, 4, 8, 16, 5, 9, 21, 25, 26, -2, -3}, {1, 2, 4, 6, 8, -2, -3}, {1, 2, 4, 5, 6, -2, -3}, {-2, -3}};
        for (int k = 0; k < 4; k++) {
            for (int set : taken[k]) {
                CHECK.due("back(" + k + ", " + set + ")", house.back(k, set), true);
                CHECK.due("stands(" + k + ")", house.stands(k), set);
                for (int wrong : refused[k]) {
                    CHECK.due("back(" + k + ", " + wrong + ")", house.back(k, wrong), false);
                    CHECK.due("stands(" + k + ") as before", house.stands(k), set);
                }
            }
        }
    }

    private static void backKeepsTheRest() {
        SignalHouse house = Check.house("A()xy{!y;1;1}");
        house.make(0);
        house.tick(0, 0);
        CHECK.due("back", house.back(0, 2), true);
        CHECK.due("out stays", house.out(0), 2);
        CHECK.due("ticks stay", house.ticks(0), 1);
        CHECK.due("back", house.back(0, -2), true);
        CHECK.due("out stays", house.out(0), 2);
        CHECK.due("ticks stay", house.ticks(0), 1);
    }

    private static void counting() {
        SignalHouse house = Check.house("A(a)x{*(1;?a(?x(0)(!x))(0))}");
        house.make(0);
        house.make(0);
        for (int i = 0; i < 9; i++) {
            house.tick(0, i % 2);
        }
        CHECK.due("ticks(0)", house.ticks(0), 5);
        CHECK.due("ticks(1)", house.ticks(1), 0);
    }

    private static void manySignals() {
        String text = "A(abcdefghijklmnopqrstuvwxy)z{?y(!z)(?a(!z)(0));1}";
        goes(text, 0, 0, 1);
        goes(text, 1, 1, 1);
        goes(text, 1 << 24, 1, 1);
        goes(text, (1 << 24) - 2, 0, 1);
        goes("A()abcdefghijklmnopqrstuvwxyz{!z;!a;?y(!b)(0)}", 0, 1 << 25 | 1, DONE);
        SignalHouse house = Check.house(text);
        house.make(0);
        CHECK.due("a set of 26", house.tick(0, 1 << 25), -1);
        StringBuilder chain = new StringBuilder("A()abcdefghijklmnopqrstuvwxyz{");
        for (char c = 'z'; c > 'a'; c--) {
            chain.append('?').append((char) (c - 1)).append("(!").append(c).append(")(0)|");
        }
        goes(chain + "!a}", 0, (1 << 26) - 1, DONE);
        goes(chain + "0}", 0, 0, DONE);
    }

    private static void deepest() {
        String deep = "0|1;%a(".repeat(12) + "1;&a;!x|1" + ")".repeat(12);
        SignalHouse house = Check.house("A(a)x{" + deep + "}");
        house.make(0);
        for (int i = 0; i < 15; i++) {
            CHECK.due("deep tick " + i, house.tick(0, 0), 0);
            CHECK.due("deep out " + i, house.out(0), 0);
        }
        CHECK.due("deep tick with a", house.tick(0, 1), 0);
        CHECK.due("deep stands", house.stands(0), DONE);
    }
}
