import java.util.ArrayDeque;
import java.util.ArrayList;
import java.util.Arrays;
import java.util.Deque;
import java.util.HashMap;
import java.util.HashSet;
import java.util.LinkedHashMap;
import java.util.List;
import java.util.Map;
import java.util.Set;
import java.util.TreeSet;

/**
 * The document once more, word by word and slowly: MUST and CAN apart, two parts at a time,
 * texts checked by a table. It shares nothing with the class that it is held against.
 */
final class Oracle {
    static final int NONE = -1;

    /** A statement as the text has it, or opened: op is its sign, ';' and '|' have two parts. */
    static final class Part {
        final char op;
        final int place;
        char letter = 0;
        int letterPlace = 0;
        String trap = "";
        int pause = -1;
        final List<Part> parts = new ArrayList<>();

        Part(char op, int place, Part... parts) {
            this.op = op;
            this.place = place;
            this.parts.addAll(Arrays.asList(parts));
        }

        Part of(char letter) {
            this.letter = letter;
            return this;
        }

        Part named(String trap) {
            this.trap = trap;
            return this;
        }

        Part first() {
            return parts.get(0);
        }

        Part second() {
            return parts.get(1);
        }

        Set<Integer> pauses() {
            Set<Integer> all = new TreeSet<>();
            if (op == '1') {
                all.add(pause);
            }
            for (Part part : parts) {
                all.addAll(part.pauses());
            }
            return all;
        }
    }

    static final class Prog {
        char name;
        int namePlace;
        List<Character> inputs = new ArrayList<>();
        List<Character> outputs = new ArrayList<>();
        List<Integer> signalPlaces = new ArrayList<>();
        Part told;
        Part opened;
        List<Integer> pausePlaces = new ArrayList<>();
    }

    static final class Inst {
        Prog prog;
        State state = State.NOT_BEGUN;
        int out = 0;
        int ticks = 0;
    }

    /** Not begun, done, or the pauses. */
    record State(int kind, Set<Integer> pauses) {
        static final State NOT_BEGUN = new State(-2, Set.of());
        static final State DONE = new State(-3, Set.of());

        int told() {
            return kind != 0 ? kind : bits(pauses);
        }
    }

    record Weight(Set<Character> signals, Set<Integer> codes) {
    }

    record Ending(int code, Set<Integer> pauses) {
    }

    record Outcome(int failed, Set<Character> there, State state) {
    }

    private static final class StaysOpen extends Exception {
        private static final long serialVersionUID = 1;
    }

    private String text = "";
    private List<Prog> progs = new ArrayList<>();
    private List<Inst> insts = new ArrayList<>();
    private int faultKind = 0;
    private int faultPlace = 0;
    private boolean sought = false;
    private List<Integer> run = new ArrayList<>();
    private int found = 0;
    private int fresh = 0;

    static int bits(Set<Integer> set) {
        int bits = 0;
        for (int i : set) {
            bits |= 1 << i;
        }
        return bits;
    }

    // ---- the face

    boolean type(long word, int n) {
        if (n < 1 || n > 8) {
            return false;
        }
        StringBuilder more = new StringBuilder();
        for (int i = n - 1; i >= 0; i--) {
            int b = (int) ((word >> (8 * i)) & 255);
            if (b < 33 || b > 126) {
                return false;
            }
            more.append((char) b);
        }
        if (text.length() + n > 500) {
            return false;
        }
        text += more;
        return true;
    }

    int module() {
        String latest = text;
        text = "";
        faultKind = 0;
        faultPlace = 0;
        int wrong = firstThatCantStand(latest);
        if (wrong != NONE) {
            return faulty(1, wrong);
        }
        List<Prog> read = new Parser(latest).all();
        TreeSet<Integer> second = new TreeSet<>();
        TreeSet<Integer> third = new TreeSet<>();
        TreeSet<Integer> fourth = new TreeSet<>();
        Set<Character> names = new HashSet<>();
        for (Prog prog : read) {
            if (!names.add(prog.name)) {
                second.add(prog.namePlace);
            }
            secondFaults(prog, second);
        }
        if (!second.isEmpty()) {
            return faulty(2, second.first());
        }
        for (Prog prog : read) {
            prog.opened = opened(prog.told);
            number(prog.opened, prog.pausePlaces);
            thirdFaults(prog.opened, new ArrayList<>(), third);
            fourthFaults(prog.told, 0, fourth);
            for (int i = 30; i < prog.pausePlaces.size(); i++) {
                fourth.add(prog.pausePlaces.get(i));
            }
        }
        if (!third.isEmpty()) {
            return faulty(3, third.first());
        }
        if (!fourth.isEmpty()) {
            return faulty(4, fourth.first());
        }
        progs = read;
        insts = new ArrayList<>();
        return progs.size();
    }

    private int faulty(int kind, int place) {
        faultKind = kind;
        faultPlace = place;
        return NONE;
    }

    int fault(int what) {
        return what == 0 ? faultKind : what == 1 ? faultPlace : NONE;
    }

    int program(int k, int what) {
        if (k < 0 || k >= progs.size()) {
            return NONE;
        }
        Prog prog = progs.get(k);
        if (what == 0) {
            return prog.name;
        }
        if (what == 1) {
            return prog.inputs.size();
        }
        if (what == 2) {
            return prog.outputs.size();
        }
        if (what == 3) {
            return prog.pausePlaces.size();
        }
        if (what == 4) {
            return bits(atOnce(prog.opened, new ArrayList<>()));
        }
        for (int i = 0; i < prog.pausePlaces.size(); i++) {
            if (what == 100 + i) {
                return prog.pausePlaces.get(i);
            }
        }
        return NONE;
    }

    int make(int k) {
        if (k < 0 || k >= progs.size() || insts.size() == 8) {
            return NONE;
        }
        Inst inst = new Inst();
        inst.prog = progs.get(k);
        insts.add(inst);
        return insts.size() - 1;
    }

    private Inst inst(int i) {
        return i < 0 || i >= insts.size() ? null : insts.get(i);
    }

    int tick(int instance, int inputs) {
        Inst inst = inst(instance);
        if (inst == null || inputs < 0 || inputs >= 1 << inst.prog.inputs.size()) {
            return NONE;
        }
        Outcome outcome = go(inst.prog, inst.state, inputs);
        if (outcome.failed() == 0) {
            inst.ticks++;
            inst.state = outcome.state();
            inst.out = outBits(inst.prog, outcome);
        }
        return outcome.failed();
    }

    private static int outBits(Prog prog, Outcome outcome) {
        int bits = 0;
        for (int i = 0; i < prog.outputs.size(); i++) {
            if (outcome.there().contains(prog.outputs.get(i))) {
                bits |= 1 << i;
            }
        }
        return bits;
    }

    int out(int instance) {
        return inst(instance) == null ? NONE : inst(instance).out;
    }

    int stands(int instance) {
        return inst(instance) == null ? NONE : inst(instance).state.told();
    }

    boolean back(int instance, int set) {
        Inst inst = inst(instance);
        if (inst == null) {
            return false;
        }
        if (set == -2 || set == -3) {
            inst.state = set == -2 ? State.NOT_BEGUN : State.DONE;
            return true;
        }
        Set<Integer> pauses = new TreeSet<>();
        for (int i = 0; i < 32; i++) {
            if ((set >>> i & 1) != 0) {
                pauses.add(i);
            }
        }
        if (pauses.isEmpty() || !inst.prog.opened.pauses().containsAll(pauses)) {
            return false;
        }
        for (int a : pauses) {
            for (int b : pauses) {
                if (a < b && apart(inst.prog.opened, a, b)) {
                    return false;
                }
            }
        }
        inst.state = new State(0, pauses);
        return true;
    }

    private static boolean apart(Part part, int a, int b) {
        for (Part within : part.parts) {
            if (within.pauses().contains(a) && within.pauses().contains(b)) {
                return apart(within, a, b);
            }
        }
        return part.op == ';' || part.op == '?';
    }

    int ticks(int instance) {
        return inst(instance) == null ? NONE : inst(instance).ticks;
    }

    int search(int k, int what, int most) {
        if (k < 0 || k >= progs.size() || progs.get(k).inputs.size() > 4 || most < 1 || most > 300) {
            return NONE;
        }
        Prog prog = progs.get(k);
        if (what < NONE || what >= prog.outputs.size()) {
            return NONE;
        }
        Map<State, List<Integer>> ways = new LinkedHashMap<>();
        Deque<State> open = new ArrayDeque<>();
        ways.put(State.NOT_BEGUN, List.of());
        open.add(State.NOT_BEGUN);
        while (!open.isEmpty()) {
            State state = open.remove();
            for (int inputs = 0; inputs < 1 << prog.inputs.size(); inputs++) {
                List<Integer> way = new ArrayList<>(ways.get(state));
                way.add(inputs);
                Outcome outcome = go(prog, state, inputs);
                boolean fails = outcome.failed() != 0;
                boolean sought = what == NONE ? fails : !fails && outcome.there().contains(prog.outputs.get(what));
                if (sought) {
                    return ended(1, way, ways.size());
                }
                if (!fails && !ways.containsKey(outcome.state())) {
                    if (ways.size() == most) {
                        return ended(2, List.of(), ways.size());
                    }
                    ways.put(outcome.state(), way);
                    open.add(outcome.state());
                }
            }
        }
        return ended(0, List.of(), ways.size());
    }

    int differ(int k, int other, int most) {
        if (k < 0 || k >= progs.size() || other < 0 || other >= progs.size() || most < 1 || most > 300) {
            return NONE;
        }
        Prog one = progs.get(k);
        Prog two = progs.get(other);
        if (one.inputs.size() > 4 || one.inputs.size() != two.inputs.size() || one.outputs.size() != two.outputs.size()) {
            return NONE;
        }
        List<List<State>> states = new ArrayList<>();
        List<List<Integer>> ways = new ArrayList<>();
        states.add(List.of(State.NOT_BEGUN, State.NOT_BEGUN));
        ways.add(List.of());
        for (int at = 0; at < states.size(); at++) {
            for (int inputs = 0; inputs < 1 << one.inputs.size(); inputs++) {
                List<Integer> way = new ArrayList<>(ways.get(at));
                way.add(inputs);
                Outcome a = go(one, states.get(at).get(0), inputs);
                Outcome b = go(two, states.get(at).get(1), inputs);
                if (a.failed() != 0 && b.failed() != 0) {
                    continue;
                }
                if (a.failed() != 0 || b.failed() != 0 || outBits(one, a) != outBits(two, b)) {
                    return ended(1, way, states.size());
                }
                List<State> both = List.of(a.state(), b.state());
                if (!states.contains(both)) {
                    if (states.size() == most) {
                        return ended(2, List.of(), most);
                    }
                    states.add(both);
                    ways.add(way);
                }
            }
        }
        return ended(0, List.of(), states.size());
    }

    private int ended(int how, List<Integer> way, int states) {
        sought = true;
        run = way;
        found = states;
        return how;
    }

    int run(int tick) {
        if (!sought) {
            return NONE;
        }
        if (tick == NONE) {
            return run.size();
        }
        if (tick == -2) {
            return found;
        }
        return tick >= 0 && tick < run.size() ? run.get(tick) : NONE;
    }

    int total(int what) {
        return what == 0 ? progs.size() : what == 1 ? text.length() : what == 2 ? insts.size() : NONE;
    }

    // ---- FAULT 1, by a stack of what is still to come

    /** Upper case words stand for what the table below opens; others for themselves. */
    static int firstThatCantStand(String text) {
        Deque<String> stack = new ArrayDeque<>();
        push(stack, "PROGRAM MORE");
        int depth = 0;
        int programs = 0;
        for (int i = 0; i <= text.length(); i++) {
            char c = i < text.length() ? text.charAt(i) : 0;
            while (!stack.isEmpty() && opens(stack.peek())) {
                String what = stack.pop();
                String by = rule(what, c);
                if (by == null) {
                    return i;
                }
                push(stack, by);
            }
            if (i == text.length()) {
                return stack.isEmpty() ? NONE : i;
            }
            if (stack.isEmpty() || !fits(stack.pop(), c)) {
                return i;
            }
            if (c >= 'A' && c <= 'F' && depth == 0 && (i == 0 || text.charAt(i - 1) == '}')) {
                programs++;
                if (programs > 6) {
                    return i;
                }
            }
            depth += c == '(' ? 1 : c == ')' ? -1 : 0;
            if (depth > 12) {
                return i;
            }
        }
        return NONE;
    }

    private static void push(Deque<String> stack, String words) {
        String[] all = words.isEmpty() ? new String[0] : words.split(" ");
        for (int i = all.length - 1; i >= 0; i--) {
            stack.push(all[i]);
        }
    }

    private static boolean opens(String word) {
        return word.length() > 1 && Character.isUpperCase(word.charAt(0));
    }

    private static boolean fits(String word, char c) {
        switch (word) {
            case "name":
                return c >= 'A' && c <= 'F';
            case "letter":
                return c >= 'a' && c <= 'z';
            case "trap":
                return c >= 'A' && c <= 'Z';
            default:
                return word.length() == 1 && word.charAt(0) == c;
        }
    }

    private static String rule(String what, char c) {
        boolean letter = c >= 'a' && c <= 'z';
        switch (what) {
            case "MORE":
                return c == 0 ? "" : "PROGRAM MORE";
            case "PROGRAM":
                return "name ( LETTERS ) letter LETTERS { PP }";
            case "LETTERS":
                return letter ? "letter LETTERS" : "";
            case "PP":
                return "QQ PTAIL";
            case "PTAIL":
                return c == '|' ? "| QQ PTAIL" : "";
            case "QQ":
                return "UU QTAIL";
            case "QTAIL":
                return c == ';' ? "; UU QTAIL" : "";
            default:
                break;
        }
        switch (c) {
            case '0':
            case '1':
                return c + "";
            case '!':
            case '&':
            case '^':
                return c + " letter";
            case '?':
                return "? letter ( PP ) ( PP )";
            case '*':
                return "* ( PP )";
            case '#':
            case '@':
            case '%':
            case '~':
                return c + " letter ( PP )";
            case '$':
                return "$ trap ( PP )";
            case '.':
                return ". trap";
            case '(':
                return "( PP )";
            default:
                return null;
        }
    }

    // ---- reading a text that has no FAULT 1

    private static final class Parser {
        private final String text;
        private int at = 0;

        Parser(String text) {
            this.text = text;
        }

        List<Prog> all() {
            List<Prog> progs = new ArrayList<>();
            while (at < text.length()) {
                Prog prog = new Prog();
                prog.namePlace = at;
                prog.name = text.charAt(at++);
                at++;
                letters(prog.inputs, prog.signalPlaces);
                at++;
                letters(prog.outputs, prog.signalPlaces);
                at++;
                prog.told = beside();
                at++;
                progs.add(prog);
            }
            return progs;
        }

        private void letters(List<Character> to, List<Integer> places) {
            while (Character.isLowerCase(text.charAt(at))) {
                places.add(at);
                to.add(text.charAt(at++));
            }
        }

        private Part beside() {
            Part all = row();
            while (text.charAt(at) == '|') {
                int place = at++;
                all = new Part('|', place, all, row());
            }
            return all;
        }

        private Part row() {
            Part all = unit();
            while (text.charAt(at) == ';') {
                int place = at++;
                all = new Part(';', place, all, unit());
            }
            return all;
        }

        private Part body() {
            at++;
            Part part = beside();
            at++;
            return part;
        }

        private Part unit() {
            int place = at;
            char op = text.charAt(at);
            if (op == '(') {
                return body();
            }
            at++;
            Part part = new Part(op, place);
            if ("!?#@&^%~".indexOf(op) >= 0) {
                part.letterPlace = at;
                part.letter = text.charAt(at++);
            }
            if ("$.".indexOf(op) >= 0) {
                part.letterPlace = at;
                part.trap = text.substring(at, at + 1);
                at++;
            }
            if ("?*#$@%~".indexOf(op) >= 0) {
                part.parts.add(body());
            }
            if (op == '?') {
                part.parts.add(body());
            }
            return part;
        }
    }

    // ---- FAULTS 2 to 4

    private static void secondFaults(Prog prog, Set<Integer> places) {
        List<Character> all = new ArrayList<>(prog.inputs);
        all.addAll(prog.outputs);
        for (int i = 0; i < all.size(); i++) {
            if (all.indexOf(all.get(i)) < i) {
                places.add(prog.signalPlaces.get(i));
            }
        }
        secondFaults(prog, prog.told, new HashSet<>(all), new HashSet<>(), places);
    }

    private static void secondFaults(Prog prog, Part part, Set<Character> told, Set<String> traps, Set<Integer> places) {
        Set<Character> within = told;
        Set<String> trapsWithin = traps;
        if (part.op == '@') {
            if (told.contains(part.letter)) {
                places.add(part.letterPlace);
            }
            within = new HashSet<>(told);
            within.add(part.letter);
        } else if (part.letter != 0 && !told.contains(part.letter)) {
            places.add(part.letterPlace);
        }
        if ((part.op == '!' || part.op == '^') && prog.inputs.contains(part.letter)) {
            places.add(part.letterPlace);
        }
        if (part.op == '$') {
            trapsWithin = new HashSet<>(traps);
            trapsWithin.add(part.trap);
        }
        if (part.op == '.' && !traps.contains(part.trap)) {
            places.add(part.letterPlace);
        }
        for (Part inner : part.parts) {
            secondFaults(prog, inner, within, trapsWithin, places);
        }
    }

    private static void thirdFaults(Part part, List<String> traps, Set<Integer> places) {
        List<String> inside = inside(part, traps);
        if (part.op == '*' && atOnce(part.first(), traps).contains(0)) {
            places.add(part.place);
        }
        for (Part inner : part.parts) {
            thirdFaults(inner, inside, places);
        }
    }

    private static void fourthFaults(Part part, int locals, Set<Integer> places) {
        if (part.op == '@' && locals >= 4) {
            places.add(part.place);
        }
        for (Part inner : part.parts) {
            fourthFaults(inner, part.op == '@' ? locals + 1 : locals, places);
        }
    }

    // ---- what is told for others

    private Part opened(Part told) {
        List<Part> parts = new ArrayList<>();
        int place = told.place;
        char letter = told.letter;
        String own = "own" + fresh++;
        for (Part part : told.parts) {
            parts.add(opened(part));
        }
        switch (told.op) {
            case '&':
                return new Part('$', place, watch(own, letter, place)).named(own);
            case '^':
                return new Part('*', place, new Part(';', place, new Part('!', place).of(letter), new Part('1', place)));
            case '%': {
                Part held = new Part('#', place, parts.get(0)).of(letter);
                Part row = new Part(';', place, held, new Part('.', place).named(own));
                return new Part('$', place, new Part('|', place, row, watch(own, letter, place))).named(own);
            }
            case '~': {
                Part row = new Part(';', place, parts.get(0), new Part('.', place).named(own));
                return new Part('$', place, new Part('|', place, row, watch(own, letter, place))).named(own);
            }
            default: {
                Part same = new Part(told.op, place, parts.toArray(new Part[0])).of(letter).named(told.trap);
                same.letterPlace = told.letterPlace;
                return same;
            }
        }
    }

    private static Part watch(String own, char letter, int place) {
        Part ask = new Part('?', place, new Part('.', place).named(own), new Part('0', place)).of(letter);
        return new Part('*', place, new Part(';', place, new Part('1', place), ask));
    }

    private static void number(Part part, List<Integer> places) {
        if (part.op == '1') {
            part.pause = places.size();
            places.add(part.place);
        }
        for (Part inner : part.parts) {
            number(inner, places);
        }
    }

    // ---- codes

    private static List<String> inside(Part part, List<String> traps) {
        if (part.op != '$') {
            return traps;
        }
        List<String> more = new ArrayList<>(traps);
        more.add(part.trap);
        return more;
    }

    private static int exitCode(Part exit, List<String> traps) {
        return 2 + traps.size() - 1 - traps.lastIndexOf(exit.trap);
    }

    private static Set<Integer> behindTrap(Set<Integer> codes) {
        Set<Integer> all = new TreeSet<>();
        for (int code : codes) {
            all.add(behindTrap(code));
        }
        return all;
    }

    private static int behindTrap(int code) {
        return code == 0 || code == 2 ? 0 : code == 1 ? 1 : code - 1;
    }

    private static Set<Integer> greater(Set<Integer> a, Set<Integer> b) {
        Set<Integer> all = new TreeSet<>();
        for (int x : a) {
            for (int y : b) {
                all.add(Math.max(x, y));
            }
        }
        return all;
    }

    private static Set<Integer> atOnce(Part part, List<String> traps) {
        switch (part.op) {
            case '0':
            case '!':
                return Set.of(0);
            case '1':
                return Set.of(1);
            case '.':
                return Set.of(exitCode(part, traps));
            case '?': {
                Set<Integer> all = new TreeSet<>(atOnce(part.first(), traps));
                all.addAll(atOnce(part.second(), traps));
                return all;
            }
            case ';': {
                Set<Integer> all = new TreeSet<>(atOnce(part.first(), traps));
                if (all.remove(0)) {
                    all.addAll(atOnce(part.second(), traps));
                }
                return all;
            }
            case '*': {
                Set<Integer> all = new TreeSet<>(atOnce(part.first(), traps));
                all.remove(0);
                return all;
            }
            case '|':
                return greater(atOnce(part.first(), traps), atOnce(part.second(), traps));
            case '$':
                return behindTrap(atOnce(part.first(), inside(part, traps)));
            default:
                return atOnce(part.first(), traps);
        }
    }

    // ---- a tick

    private static boolean stands(Part part, State state) {
        Set<Integer> both = part.pauses();
        both.retainAll(state.pauses());
        return !both.isEmpty();
    }

    private static Map<Character, Boolean> with(Map<Character, Boolean> known, char letter, boolean there) {
        Map<Character, Boolean> more = new HashMap<>(known);
        more.put(letter, there);
        return more;
    }

    private static Weight less(Weight weight, char letter) {
        Set<Character> signals = new TreeSet<>(weight.signals());
        signals.remove(letter);
        return new Weight(signals, weight.codes());
    }

    private static Weight both(Weight a, Weight b, Set<Integer> codes) {
        Set<Character> signals = new TreeSet<>(a.signals());
        signals.addAll(b.signals());
        return new Weight(signals, codes);
    }

    private static Set<Integer> union(Set<Integer> a, Set<Integer> b) {
        Set<Integer> all = new TreeSet<>(a);
        all.addAll(b);
        return all;
    }

    private static Weight code(int code) {
        return new Weight(Set.of(), Set.of(code));
    }

    private static final Weight NOTHING = new Weight(Set.of(), Set.of());

    /** What a tick is told of: where the program stood, and whether this part is begun. */
    private static Weight must(Part part, List<String> traps, State state, boolean begun, Map<Character, Boolean> known) {
        Boolean signal = known.get(part.letter);
        switch (part.op) {
            case '0':
                return code(0);
            case '1':
                return code(begun ? 1 : 0);
            case '!':
                return new Weight(Set.of(part.letter), Set.of(0));
            case '.':
                return code(exitCode(part, traps));
            case '?':
                if (!begun) {
                    return must(stands(part.first(), state) ? part.first() : part.second(), traps, state, false, known);
                }
                return signal == null ? NOTHING : must(signal ? part.first() : part.second(), traps, state, true, known);
            case '#':
                if (begun || signal != null && !signal) {
                    return must(part.first(), traps, state, begun, known);
                }
                return signal == null ? NOTHING : code(1);
            case ';':
                if (!begun && stands(part.second(), state)) {
                    return must(part.second(), traps, state, false, known);
                }
                return mustRow(part.first(), part.second(), traps, state, begun, known);
            case '*':
                if (begun) {
                    return must(part.first(), traps, state, true, known);
                }
                return mustRow(part.first(), part.first(), traps, state, false, known);
            case '|': {
                Weight a = begun || stands(part.first(), state) ? must(part.first(), traps, state, begun, known) : code(0);
                Weight b = begun || stands(part.second(), state) ? must(part.second(), traps, state, begun, known) : code(0);
                return both(a, b, greater(a.codes(), b.codes()));
            }
            case '$': {
                Weight within = must(part.first(), inside(part, traps), state, begun, known);
                return new Weight(within.signals(), behindTrap(within.codes()));
            }
            default: {
                Part p = part.first();
                Weight open = must(p, traps, state, begun, known);
                if (open.signals().contains(part.letter)) {
                    return less(must(p, traps, state, begun, with(known, part.letter, true)), part.letter);
                }
                if (!can(p, traps, state, begun, known, true).signals().contains(part.letter)) {
                    return less(must(p, traps, state, begun, with(known, part.letter, false)), part.letter);
                }
                return less(open, part.letter);
            }
        }
    }

    private static Weight mustRow(Part p, Part q, List<String> traps, State state, boolean begun, Map<Character, Boolean> known) {
        Weight a = must(p, traps, state, begun, known);
        if (!a.codes().contains(0)) {
            return a;
        }
        Weight b = must(q, traps, state, true, known);
        return both(a, b, b.codes());
    }

    private static Weight can(Part part, List<String> traps, State state, boolean begun, Map<Character, Boolean> known, boolean sure) {
        Boolean signal = known.get(part.letter);
        switch (part.op) {
            case '0':
            case '1':
            case '!':
            case '.':
                return must(part, traps, state, begun, known);
            case '?': {
                if (!begun) {
                    return can(stands(part.first(), state) ? part.first() : part.second(), traps, state, false, known, sure);
                }
                if (signal != null) {
                    return can(signal ? part.first() : part.second(), traps, state, true, known, sure);
                }
                Weight a = can(part.first(), traps, state, true, known, false);
                Weight b = can(part.second(), traps, state, true, known, false);
                return both(a, b, union(a.codes(), b.codes()));
            }
            case '#': {
                if (begun || signal != null && !signal) {
                    return can(part.first(), traps, state, begun, known, sure);
                }
                if (signal != null) {
                    return code(1);
                }
                Weight within = can(part.first(), traps, state, false, known, false);
                return new Weight(within.signals(), union(within.codes(), Set.of(1)));
            }
            case ';':
                if (!begun && stands(part.second(), state)) {
                    return can(part.second(), traps, state, false, known, sure);
                }
                return canRow(part.first(), part.second(), traps, state, begun, known, sure);
            case '*':
                if (begun) {
                    return can(part.first(), traps, state, true, known, sure);
                }
                return canRow(part.first(), part.first(), traps, state, false, known, sure);
            case '|': {
                Weight a = begun || stands(part.first(), state) ? can(part.first(), traps, state, begun, known, sure) : code(0);
                Weight b = begun || stands(part.second(), state) ? can(part.second(), traps, state, begun, known, sure) : code(0);
                return both(a, b, greater(a.codes(), b.codes()));
            }
            case '$': {
                Weight within = can(part.first(), inside(part, traps), state, begun, known, sure);
                return new Weight(within.signals(), behindTrap(within.codes()));
            }
            default:
                return canLocal(part, traps, state, begun, known, sure);
        }
    }

    private static Weight canRow(Part p, Part q, List<String> traps, State state, boolean begun, Map<Character, Boolean> known, boolean sure) {
        Weight a = can(p, traps, state, begun, known, sure);
        if (!a.codes().contains(0)) {
            return a;
        }
        boolean sureOfQ = sure && must(p, traps, state, begun, known).codes().contains(0);
        Weight b = can(q, traps, state, true, known, sureOfQ);
        Set<Integer> codes = new TreeSet<>(a.codes());
        codes.remove(0);
        return both(a, b, union(codes, b.codes()));
    }

    private static Weight canLocal(Part part, List<String> traps, State state, boolean begun, Map<Character, Boolean> known, boolean sure) {
        Part p = part.first();
        if (sure && must(p, traps, state, begun, known).signals().contains(part.letter)) {
            return less(can(p, traps, state, begun, with(known, part.letter, true), true), part.letter);
        }
        Weight open = can(p, traps, state, begun, known, sure);
        if (!open.signals().contains(part.letter)) {
            return less(can(p, traps, state, begun, with(known, part.letter, false), sure), part.letter);
        }
        return less(open, part.letter);
    }

    private static Outcome go(Prog prog, State state, int inputs) {
        if (state.equals(State.DONE)) {
            return new Outcome(0, Set.of(), state);
        }
        boolean begun = state.equals(State.NOT_BEGUN);
        Map<Character, Boolean> known = new HashMap<>();
        for (int i = 0; i < prog.inputs.size(); i++) {
            known.put(prog.inputs.get(i), (inputs >> i & 1) != 0);
        }
        boolean news = true;
        while (news) {
            Weight must = must(prog.opened, List.of(), state, begun, known);
            Weight can = can(prog.opened, List.of(), state, begun, known, true);
            Map<Character, Boolean> more = new HashMap<>(known);
            for (char output : prog.outputs) {
                if (must.signals().contains(output)) {
                    more.put(output, true);
                } else if (!can.signals().contains(output)) {
                    more.put(output, false);
                }
            }
            news = !more.equals(known);
            known = more;
        }
        if (!known.keySet().containsAll(prog.outputs)) {
            return new Outcome(1, Set.of(), state);
        }
        try {
            Ending ending = done(prog.opened, List.of(), state, begun, known);
            Set<Character> there = new TreeSet<>();
            for (char output : prog.outputs) {
                if (known.get(output)) {
                    there.add(output);
                }
            }
            return new Outcome(0, there, ending.code() == 0 ? State.DONE : new State(0, ending.pauses()));
        } catch (StaysOpen e) {
            return new Outcome(2, Set.of(), state);
        }
    }

    private static Ending done(Part part, List<String> traps, State state, boolean begun, Map<Character, Boolean> known) throws StaysOpen {
        switch (part.op) {
            case '0':
            case '!':
                return new Ending(0, Set.of());
            case '1':
                return begun ? new Ending(1, Set.of(part.pause)) : new Ending(0, Set.of());
            case '.':
                return new Ending(exitCode(part, traps), Set.of());
            case '?': {
                boolean first = begun ? known.get(part.letter) : stands(part.first(), state);
                return done(first ? part.first() : part.second(), traps, state, begun, known);
            }
            case '#': {
                if (begun || !known.get(part.letter)) {
                    return done(part.first(), traps, state, begun, known);
                }
                Set<Integer> as = part.pauses();
                as.retainAll(state.pauses());
                return new Ending(1, as);
            }
            case ';': {
                if (!begun && stands(part.second(), state)) {
                    return done(part.second(), traps, state, false, known);
                }
                Ending a = done(part.first(), traps, state, begun, known);
                return a.code() != 0 ? a : done(part.second(), traps, state, true, known);
            }
            case '*': {
                Ending a = done(part.first(), traps, state, begun, known);
                return begun || a.code() != 0 ? a : done(part.first(), traps, state, true, known);
            }
            case '|': {
                Ending none = new Ending(0, Set.of());
                Ending a = begun || stands(part.first(), state) ? done(part.first(), traps, state, begun, known) : none;
                Ending b = begun || stands(part.second(), state) ? done(part.second(), traps, state, begun, known) : none;
                return new Ending(Math.max(a.code(), b.code()), union(a.pauses(), b.pauses()));
            }
            case '$': {
                Ending a = done(part.first(), inside(part, traps), state, begun, known);
                return new Ending(behindTrap(a.code()), a.code() >= 2 ? Set.of() : a.pauses());
            }
            default: {
                Part p = part.first();
                boolean there = must(p, traps, state, begun, known).signals().contains(part.letter);
                if (!there && can(p, traps, state, begun, known, true).signals().contains(part.letter)) {
                    throw new StaysOpen();
                }
                return done(p, traps, state, begun, with(known, part.letter, there));
            }
        }
    }
}
