import java.util.Arrays;

/** Programs of signals that go by ticks; DOC.md says what each call answers. */
public final class SignalHouse {
    public static final int NONE = -1;

    private static final int MOST_TEXT = 500;
    private static final int MOST_PROGRAMS = 6;
    private static final int MOST_INSTANCES = 8;
    private static final int MOST_DEPTH = 12;
    private static final int MOST_LOCALS = 4;
    private static final int MOST_PAUSES = 30;
    private static final int MOST_STATES = 300;
    private static final int MOST_SEARCHED_INPUTS = 4;
    private static final int LETTERS = 26;
    private static final int FIRST_PAUSE_PLACE = 100;

    private static final int NOT_BEGUN = -2;
    private static final int DONE = -3;

    private final Reader reader = new Reader();
    private final Ticker ticker = new Ticker();
    private final Seeker seeker = new Seeker();
    private final Program[] programs = new Program[MOST_PROGRAMS];
    private final Instance[] instances = new Instance[MOST_INSTANCES];
    private int programCount = 0;
    private int instanceCount = 0;
    private int faultKind = 0;
    private int faultPlace = 0;

    public SignalHouse() {
    }

    public boolean type(long word, int n) {
        if (n < 1 || n > 8 || !reader.hasRoomFor(n)) {
            return false;
        }
        for (int i = 0; i < n; i++) {
            int character = byteOf(word, i);
            if (character < 33 || character > 126) {
                return false;
            }
        }
        for (int i = n - 1; i >= 0; i--) {
            reader.append((char) byteOf(word, i));
        }
        return true;
    }

    public int module() throws IllegalArgumentException {
        int count = reader.readText();
        faultKind = reader.faultKind();
        faultPlace = reader.faultPlace();
        if (faultKind != 0) {
            throw new IllegalArgumentException("the text has a fault");
        }
        for (int i = 0; i < MOST_PROGRAMS; i++) {
            programs[i] = i < count ? reader.programs[i] : null;
        }
        programCount = count;
        instanceCount = 0;
        return count;
    }

    public int fault(int what) {
        switch (what) {
            case 0:
                return faultKind;
            case 1:
                return faultPlace;
            default:
                return NONE;
        }
    }

    public int program(int k, int what) {
        Program program = programAt(k);
        return program == null ? NONE : program.told(what);
    }

    public int make(int k) {
        Program program = programAt(k);
        if (program == null || instanceCount >= MOST_INSTANCES) {
            return NONE;
        }
        int number = instanceCount;
        instances[number] = new Instance(program);
        instanceCount++;
        return number;
    }

    public int tick(int instance, int inputs) {
        Instance one = instanceAt(instance);
        if (one == null || !one.program.hasInputs(inputs)) {
            return NONE;
        }
        int failed = ticker.go(one.program, one.state, inputs);
        if (failed == 0) {
            one.state = ticker.state;
            one.outputs = ticker.outputs;
            one.ticksGone++;
        }
        return failed;
    }

    public int out(int instance) {
        Instance one = instanceAt(instance);
        return one == null ? NONE : one.outputs;
    }

    public int stands(int instance) {
        Instance one = instanceAt(instance);
        return one == null ? NONE : one.state;
    }

    public boolean back(int instance, int set) {
        Instance one = instanceAt(instance);
        if (one == null || !one.program.canStandAt(set)) {
            return false;
        }
        one.state = set;
        return true;
    }

    public int ticks(int instance) {
        Instance one = instanceAt(instance);
        return one == null ? NONE : one.ticksGone;
    }

    public int search(int k, int what, int most) {
        Program program = programAt(k);
        if (program == null || program.inputs > MOST_SEARCHED_INPUTS) {
            return NONE;
        }
        if (what < NONE || what >= program.outputs || !isMost(most)) {
            return NONE;
        }
        return seeker.seek(program, null, what, most);
    }

    public int differ(int k, int other, int most) {
        Program one = programAt(k);
        Program two = programAt(other);
        if (one == null || two == null || one.inputs > MOST_SEARCHED_INPUTS) {
            return NONE;
        }
        if (one.inputs != two.inputs || one.outputs != two.outputs || !isMost(most)) {
            return NONE;
        }
        return seeker.seek(one, two, NONE, most);
    }

    public int run(int tick) {
        return seeker.told(tick);
    }

    public int total(int what) {
        switch (what) {
            case 0:
                return programCount;
            case 1:
                return reader.length;
            case 2:
                return instanceCount;
            default:
                return NONE;
        }
    }

    private static int byteOf(long word, int i) {
        return (int) (word >>> (8 * i)) & 0xFF;
    }

    private static boolean isMost(int most) {
        return most >= 1 && most <= MOST_STATES;
    }

    private Program programAt(int k) {
        return k >= 0 && k < programCount && k < programs.length ? programs[k] : null;
    }

    private Instance instanceAt(int number) {
        return number >= 0 && number < instanceCount && number < instances.length ? instances[number] : null;
    }

    /** An instance of a program, between two ticks. */
    private static final class Instance {
        final Program program;
        int state = NOT_BEGUN;
        int outputs = 0;
        int ticksGone = 0;

        Instance(Program program) {
            this.program = program;
        }
    }

    /** Sets of codes, a bit each; MUST and CAN travel together in one int, so that weighing makes no objects. */
    private static final class Codes {
        private static final int WIDTH = 16;
        private static final int LOW = 0xFFFF;
        static final int ZERO = 1;
        static final int ONE = 2;

        static int pair(int must, int can) {
            return must << WIDTH | can;
        }

        static int mustOf(int both) {
            return both >>> WIDTH;
        }

        static int canOf(int both) {
            return both & LOW;
        }

        /** The greater code of each two: those of either set that are not below the least one of the other. */
        static int greater(int a, int b) {
            return (a & -(b & -b)) | (b & -(a & -a));
        }

        static int behindTrap(int codes) {
            return (codes & 3) | ((codes >>> 2) & 1) | ((codes >>> 1) & ~3);
        }
    }

    /** A statement; those within it are a chain from first on. What is told for others is built opened. */
    private static final class Node {
        static final int NOTHING = 0;
        static final int PAUSE = 1;
        static final int EMIT = 2;
        static final int ASK = 3;
        static final int LOOP = 4;
        static final int SUSPEND = 5;
        static final int TRAP = 6;
        static final int EXIT = 7;
        static final int LOCAL = 8;
        static final int ROW = 9;
        static final int BESIDE = 10;

        final int kind;
        /** The bit of the signal or of the pause, or the code of an exit. */
        final int value;
        final Node first;
        final int pauses;
        final int atOnce;
        Node next = null;

        Node(int kind, int value, Node first) {
            this.kind = kind;
            this.value = value;
            this.first = first;
            this.pauses = kind == PAUSE ? value : pausesOf(first);
            this.atOnce = codesAtOnce(kind, value, first);
        }

        private static int pausesOf(Node chain) {
            int pauses = 0;
            for (Node part = chain; part != null; part = part.next) {
                pauses |= part.pauses;
            }
            return pauses;
        }

        private static int codesAtOnce(int kind, int value, Node first) {
            int codes = first == null ? Codes.ZERO : first.atOnce;
            switch (kind) {
                case PAUSE:
                    return Codes.ONE;
                case EXIT:
                    return 1 << value;
                case LOOP:
                    return codes & ~Codes.ZERO;
                case TRAP:
                    return Codes.behindTrap(codes);
                default:
                    break;
            }
            for (Node part = first == null ? null : first.next; part != null; part = part.next) {
                if (kind == ASK) {
                    codes |= part.atOnce;
                } else if (kind == BESIDE) {
                    codes = Codes.greater(codes, part.atOnce);
                } else if ((codes & Codes.ZERO) != 0) {
                    codes = (codes & ~Codes.ZERO) | part.atOnce;
                }
            }
            return codes;
        }

        boolean standsIn(int set) {
            return (pauses & set) != 0;
        }

        /** The one part of a row or of a question that stands; a set that back() took has no second one. */
        Node partThatStands(int set) {
            for (Node part = first; part != null; part = part.next) {
                if (part.standsIn(set)) {
                    return part;
                }
            }
            return null;
        }

        boolean canStandAt(int set) {
            boolean oneAlone = kind == ROW || kind == ASK;
            boolean another = false;
            for (Node part = first; part != null; part = part.next) {
                if (part.standsIn(set)) {
                    if (oneAlone && another || !part.canStandAt(set)) {
                        return false;
                    }
                    another = true;
                }
            }
            return true;
        }
    }

    /** A program: signals are bits, the inputs lowest, the outputs above them. */
    private static final class Program {
        final int name;
        final int inputs;
        final int outputs;
        final Node body;
        private final int[] pausePlaces;

        Program(int name, int inputs, int outputs, Node body, int[] pausePlaces) {
            this.name = name;
            this.inputs = inputs;
            this.outputs = outputs;
            this.body = body;
            this.pausePlaces = pausePlaces;
        }

        int inputBits() {
            return (1 << inputs) - 1;
        }

        int outputBits() {
            return ((1 << outputs) - 1) << inputs;
        }

        boolean hasInputs(int set) {
            return (set & ~inputBits()) == 0;
        }

        boolean canStandAt(int set) {
            if (set == NOT_BEGUN || set == DONE) {
                return true;
            }
            return set != 0 && (set & ~body.pauses) == 0 && body.canStandAt(set);
        }

        int told(int what) {
            switch (what) {
                case 0:
                    return name;
                case 1:
                    return inputs;
                case 2:
                    return outputs;
                case 3:
                    return pausePlaces.length;
                case 4:
                    return body.atOnce;
                default:
                    return pausePlace(what);
            }
        }

        private int pausePlace(int what) {
            if (what < FIRST_PAUSE_PLACE || what - FIRST_PAUSE_PLACE >= pausePlaces.length) {
                return NONE;
            }
            return pausePlaces[what - FIRST_PAUSE_PLACE];
        }
    }

    /**
     * Reads a text into programs and notes its faults. Once a character can't stand, the reader
     * sees nothing more of the text, so that whatever it is reading comes to an end by itself.
     */
    private static final class Reader {
        private static final int CANT_STAND = 1;
        private static final int NOT_TOLD = 2;
        private static final int AT_ONCE = 3;
        private static final int TOO_MANY = 4;
        private static final int NO_PLACE = MOST_TEXT + 1;
        private static final int UNNAMED = 0;
        private static final int OWN_TRAP = 2;

        final Program[] programs = new Program[MOST_PROGRAMS];
        private final char[] text = new char[MOST_TEXT];
        private final int[] faults = new int[TOO_MANY + 1];
        private final int[] signals = new int[LETTERS];
        private final int[] traps = new int[MOST_DEPTH + 1];
        private final int[] pausePlaces = new int[MOST_PAUSES];
        int length = 0;
        private int end = 0;
        private int place = 0;
        private int names = 0;
        private int signalCount = 0;
        private int inputBits = 0;
        private int told = 0;
        private int depth = 0;
        private int trapCount = 0;
        private int localCount = 0;
        private int pauseCount = 0;

        boolean hasRoomFor(int characters) {
            return characters <= MOST_TEXT - length;
        }

        void append(char character) {
            if (length < text.length) {
                text[length] = character;
                length++;
            }
        }

        int faultKind() {
            for (int kind = CANT_STAND; kind <= TOO_MANY; kind++) {
                if (faults[kind] != NO_PLACE) {
                    return kind;
                }
            }
            return 0;
        }

        int faultPlace() {
            int kind = faultKind();
            return kind == 0 ? 0 : faults[kind];
        }

        /** Empties the text and answers how many programs it told, if it has no fault. */
        int readText() {
            Arrays.fill(faults, NO_PLACE);
            end = length;
            length = 0;
            place = 0;
            names = 0;
            int count = 0;
            while (count < MOST_PROGRAMS && (count == 0 || peek() != NONE)) {
                programs[count] = readProgram();
                count++;
            }
            if (peek() != NONE) {
                refuse();
            }
            return count;
        }

        private void note(int kind, int where) {
            faults[kind] = Math.min(faults[kind], where);
        }

        private void refuse() {
            if (faults[CANT_STAND] == NO_PLACE) {
                faults[CANT_STAND] = place;
            }
        }

        private int peek() {
            boolean sees = faults[CANT_STAND] == NO_PLACE && place < end && place < text.length;
            return sees ? text[place] : NONE;
        }

        private int takeAny() {
            int character = peek();
            if (character != NONE) {
                place++;
            }
            return character;
        }

        private void expect(char character) {
            if (peek() == character) {
                place++;
            } else {
                refuse();
            }
        }

        private int takeBetween(char least, char greatest) {
            int character = peek();
            if (character < least || character > greatest) {
                refuse();
                return NONE;
            }
            place++;
            return character;
        }

        private boolean seesLetter() {
            return peek() >= 'a' && peek() <= 'z';
        }

        private Program readProgram() {
            startProgram();
            int name = readName();
            expect('(');
            int inputs = readSignals();
            inputBits = told;
            expect(')');
            if (!seesLetter()) {
                refuse();
            }
            int outputs = readSignals();
            expect('{');
            Node body = readBeside();
            expect('}');
            int[] places = Arrays.copyOf(pausePlaces, Math.min(pauseCount, MOST_PAUSES));
            return new Program(name, inputs, outputs, body, places);
        }

        private void startProgram() {
            Arrays.fill(signals, 0);
            signalCount = 0;
            inputBits = 0;
            told = 0;
            depth = 0;
            trapCount = 0;
            localCount = 0;
            pauseCount = 0;
        }

        private int readName() {
            int where = place;
            int name = takeBetween('A', 'F');
            if (name != NONE) {
                int bit = 1 << (name - 'A');
                if ((names & bit) != 0) {
                    note(NOT_TOLD, where);
                }
                names |= bit;
            }
            return name;
        }

        private int readSignals() {
            int before = signalCount;
            for (int i = 0; i < MOST_TEXT && seesLetter(); i++) {
                told |= readNewSignal();
            }
            return signalCount - before;
        }

        private int readNewSignal() {
            int where = place;
            int letter = takeBetween('a', 'z');
            if (letter == NONE) {
                return 0;
            }
            int i = letter - 'a';
            if ((signals[i] & told) != 0) {
                note(NOT_TOLD, where);
            }
            if (signals[i] == 0) {
                signals[i] = 1 << signalCount;
                signalCount++;
            }
            return signals[i];
        }

        private int readToldSignal() {
            int where = place;
            int letter = takeBetween('a', 'z');
            int signal = letter == NONE ? 0 : signals[letter - 'a'];
            if ((signal & told) == 0) {
                note(NOT_TOLD, where);
            }
            return signal;
        }

        private int readEmittedSignal() {
            int where = place;
            int signal = readToldSignal();
            if ((signal & inputBits) != 0) {
                note(NOT_TOLD, where);
            }
            return signal;
        }

        private Node readBeside() {
            Node first = readRow();
            Node last = first;
            for (int i = 0; i < MOST_TEXT && peek() == '|'; i++) {
                place++;
                last.next = readRow();
                last = last.next;
            }
            return last == first ? first : new Node(Node.BESIDE, 0, first);
        }

        private Node readRow() {
            Node first = readUnit();
            Node last = first;
            for (int i = 0; i < MOST_TEXT && peek() == ';'; i++) {
                place++;
                last.next = readUnit();
                last = last.next;
            }
            return last == first ? first : new Node(Node.ROW, 0, first);
        }

        private Node readUnit() {
            int start = place;
            switch (takeAny()) {
                case '0':
                    return nothing();
                case '1':
                    return newPause(start);
                case '!':
                    return newEmit(readEmittedSignal());
                case '?':
                    return readAsk();
                case '*':
                    return readLoop(start);
                case '#':
                    return readSuspend();
                case '$':
                    return new Node(Node.TRAP, 0, readTrapped(takeBetween('A', 'Z')));
                case '.':
                    return readExit();
                case '@':
                    return readLocal(start);
                case '&':
                    return new Node(Node.TRAP, 0, newWatch(readToldSignal(), start));
                case '^':
                    return newSustain(readEmittedSignal(), start);
                case '%':
                    return readAbort(start, true);
                case '~':
                    return readAbort(start, false);
                default:
                    place = start;
                    return peek() == '(' ? readBody() : readNoUnit();
            }
        }

        private Node readNoUnit() {
            refuse();
            return nothing();
        }

        private Node readBody() {
            if (depth >= MOST_DEPTH) {
                refuse();
            }
            expect('(');
            depth++;
            Node body = readBeside();
            depth--;
            expect(')');
            return body;
        }

        private Node readAsk() {
            int signal = readToldSignal();
            Node yes = readBody();
            Node no = readBody();
            return new Node(Node.ASK, signal, chain(yes, no));
        }

        private Node readLoop(int start) {
            Node body = readBody();
            if ((body.atOnce & Codes.ZERO) != 0) {
                note(AT_ONCE, start);
            }
            return new Node(Node.LOOP, 0, body);
        }

        private Node readSuspend() {
            int signal = readToldSignal();
            return new Node(Node.SUSPEND, signal, readBody());
        }

        private Node readTrapped(int name) {
            if (trapCount < traps.length) {
                traps[trapCount] = name;
            }
            trapCount++;
            Node body = readBody();
            trapCount--;
            return body;
        }

        private Node readExit() {
            int where = place;
            int name = takeBetween('A', 'Z');
            for (int i = Math.min(trapCount, traps.length) - 1; i >= 0; i--) {
                if (traps[i] == name) {
                    return newExit(OWN_TRAP + trapCount - 1 - i);
                }
            }
            note(NOT_TOLD, where);
            return newExit(OWN_TRAP);
        }

        private Node readLocal(int start) {
            if (localCount >= MOST_LOCALS) {
                note(TOO_MANY, start);
            }
            int outside = told;
            int signal = readNewSignal();
            told |= signal;
            localCount++;
            Node body = readBody();
            localCount--;
            told = outside;
            return new Node(Node.LOCAL, signal, body);
        }

        private Node readAbort(int start, boolean strong) {
            int signal = readToldSignal();
            Node body = readTrapped(UNNAMED);
            Node guarded = strong ? new Node(Node.SUSPEND, signal, body) : body;
            Node row = new Node(Node.ROW, 0, chain(guarded, newExit(OWN_TRAP)));
            Node both = new Node(Node.BESIDE, 0, chain(row, newWatch(signal, start)));
            return new Node(Node.TRAP, 0, both);
        }

        private Node newSustain(int signal, int start) {
            Node row = new Node(Node.ROW, 0, chain(newEmit(signal), newPause(start)));
            return new Node(Node.LOOP, 0, row);
        }

        private Node newWatch(int signal, int start) {
            Node pause = newPause(start);
            Node ask = new Node(Node.ASK, signal, chain(newExit(OWN_TRAP), nothing()));
            return new Node(Node.LOOP, 0, new Node(Node.ROW, 0, chain(pause, ask)));
        }

        private Node newPause(int start) {
            int number = pauseCount;
            pauseCount++;
            if (number >= MOST_PAUSES) {
                note(TOO_MANY, start);
                return new Node(Node.PAUSE, 0, null);
            }
            pausePlaces[number] = start;
            return new Node(Node.PAUSE, 1 << number, null);
        }

        private static Node chain(Node one, Node two) {
            one.next = two;
            return one;
        }

        private static Node newEmit(int signal) {
            return new Node(Node.EMIT, signal, null);
        }

        private static Node newExit(int code) {
            return new Node(Node.EXIT, code, null);
        }

        private static Node nothing() {
            return new Node(Node.NOTHING, 0, null);
        }
    }

    /**
     * Works out a tick. MUST is asked only where CAN is asked SURE, and the other way round,
     * so one walk finds both: must and can gather the signals, the codes are answered.
     */
    private static final class Ticker {
        private static final int STAYS_OPEN = 1;
        private static final int LOCAL_STAYS_OPEN = 2;

        int state = NOT_BEGUN;
        int outputs = 0;
        private int stood = 0;
        private int there = 0;
        private int missing = 0;
        private int must = 0;
        private int can = 0;
        private int comeTo = 0;
        private boolean localOpen = false;

        /** 0, or how the tick fails; state and outputs tell what came of it if it did not. */
        int go(Program program, int from, int inputs) {
            if (from == DONE) {
                state = DONE;
                outputs = 0;
                return 0;
            }
            boolean begun = from == NOT_BEGUN;
            stood = begun ? 0 : from;
            there = inputs;
            missing = program.inputBits() & ~inputs;
            if (!settles(program, begun)) {
                return STAYS_OPEN;
            }
            comeTo = 0;
            localOpen = false;
            int code = perform(program.body, begun);
            if (localOpen) {
                return LOCAL_STAYS_OPEN;
            }
            state = code == 0 ? DONE : comeTo;
            outputs = (there & program.outputBits()) >>> program.inputs;
            return 0;
        }

        private boolean settles(Program program, boolean begun) {
            int unknown = program.outputBits();
            for (int round = 0; round < LETTERS && unknown != 0; round++) {
                must = 0;
                can = 0;
                weigh(program.body, begun, true);
                int news = unknown & (must | ~can);
                if (news == 0) {
                    return false;
                }
                there |= news & must;
                missing |= news & ~must;
                unknown &= ~news;
            }
            return unknown == 0;
        }

        private int weigh(Node node, boolean begun, boolean sure) {
            if (node == null) {
                return ending(Codes.ZERO, sure);
            }
            switch (node.kind) {
                case Node.PAUSE:
                    return ending(begun ? Codes.ONE : Codes.ZERO, sure);
                case Node.EMIT:
                    can |= node.value;
                    must |= sure ? node.value : 0;
                    return ending(Codes.ZERO, sure);
                case Node.EXIT:
                    return ending(1 << node.value, sure);
                case Node.ASK:
                    return weighAsk(node, begun, sure);
                case Node.LOOP:
                    return weighLoop(node, begun, sure);
                case Node.SUSPEND:
                    return weighSuspend(node, begun, sure);
                case Node.TRAP:
                    return behindTrap(weigh(node.first, begun, sure));
                case Node.LOCAL:
                    return weighLocal(node, begun, sure);
                case Node.ROW:
                    return weighRow(node, begun, sure);
                case Node.BESIDE:
                    return weighBeside(node, begun, sure);
                default:
                    return ending(Codes.ZERO, sure);
            }
        }

        private static int ending(int codes, boolean sure) {
            return Codes.pair(sure ? codes : 0, codes);
        }

        private static int behindTrap(int both) {
            return Codes.pair(Codes.behindTrap(Codes.mustOf(both)), Codes.behindTrap(Codes.canOf(both)));
        }

        private int weighAsk(Node node, boolean begun, boolean sure) {
            Node yes = node.first;
            Node no = yes == null ? null : yes.next;
            if (!begun) {
                return weigh(node.partThatStands(stood), false, sure);
            }
            if ((there & node.value) != 0) {
                return weigh(yes, true, sure);
            }
            if ((missing & node.value) != 0) {
                return weigh(no, true, sure);
            }
            return weigh(yes, true, false) | weigh(no, true, false);
        }

        private int weighLoop(Node node, boolean begun, boolean sure) {
            int codes = weigh(node.first, begun, sure);
            return begun ? codes : weighBehind(codes, node.first, sure);
        }

        /** What comes of codes and, if they can be 0, of the next one begun. */
        private int weighBehind(int codes, Node next, boolean sure) {
            if ((Codes.canOf(codes) & Codes.ZERO) == 0) {
                return codes;
            }
            boolean surelyNext = sure && (Codes.mustOf(codes) & Codes.ZERO) != 0;
            int more = weigh(next, true, surelyNext);
            int mustCodes = surelyNext ? Codes.mustOf(more) : Codes.mustOf(codes);
            return Codes.pair(mustCodes, (Codes.canOf(codes) & ~Codes.ZERO) | Codes.canOf(more));
        }

        private int weighSuspend(Node node, boolean begun, boolean sure) {
            if (begun || (missing & node.value) != 0) {
                return weigh(node.first, begun, sure);
            }
            if ((there & node.value) != 0) {
                return ending(Codes.ONE, sure);
            }
            return weigh(node.first, false, false) | Codes.ONE;
        }

        private int weighLocal(Node node, boolean begun, boolean sure) {
            int mustBefore = must;
            int canBefore = can;
            int codes = weighAlone(node.first, begun, sure);
            if (learns(node.value)) {
                codes = weighAlone(node.first, begun, sure);
                forget(node.value);
            }
            must = mustBefore | (must & ~node.value);
            can = canBefore | (can & ~node.value);
            return codes;
        }

        private int weighAlone(Node node, boolean begun, boolean sure) {
            must = 0;
            can = 0;
            return weigh(node, begun, sure);
        }

        /** Not SURE, must holds nothing, so that the signal can only be found not there. */
        private boolean learns(int signal) {
            if ((must & signal) != 0) {
                there |= signal;
                return true;
            }
            if ((can & signal) == 0) {
                missing |= signal;
                return true;
            }
            return false;
        }

        private void forget(int signal) {
            there &= ~signal;
            missing &= ~signal;
        }

        private int weighRow(Node node, boolean begun, boolean sure) {
            Node part = begun ? node.first : node.partThatStands(stood);
            int codes = weigh(part, begun, sure);
            for (Node next = part == null ? null : part.next; next != null; next = next.next) {
                codes = weighBehind(codes, next, sure);
            }
            return codes;
        }

        private int weighBeside(Node node, boolean begun, boolean sure) {
            int mustCodes = Codes.ZERO;
            int canCodes = Codes.ZERO;
            for (Node part = node.first; part != null; part = part.next) {
                if (begun || part.standsIn(stood)) {
                    int codes = weigh(part, begun, sure);
                    mustCodes = Codes.greater(mustCodes, Codes.mustOf(codes));
                    canCodes = Codes.greater(canCodes, Codes.canOf(codes));
                }
            }
            return Codes.pair(mustCodes, canCodes);
        }

        /** Does the node by what is known and answers its code. */
        private int perform(Node node, boolean begun) {
            if (node == null) {
                return 0;
            }
            switch (node.kind) {
                case Node.PAUSE:
                    comeTo |= begun ? node.value : 0;
                    return begun ? 1 : 0;
                case Node.EXIT:
                    return node.value;
                case Node.ASK:
                    return performAsk(node, begun);
                case Node.LOOP:
                    return performLoop(node, begun);
                case Node.SUSPEND:
                    return performSuspend(node, begun);
                case Node.TRAP:
                    return performTrap(node, begun);
                case Node.LOCAL:
                    return performLocal(node, begun);
                case Node.ROW:
                    return performRow(node, begun);
                case Node.BESIDE:
                    return performBeside(node, begun);
                default:
                    return 0;
            }
        }

        private int performAsk(Node node, boolean begun) {
            Node yes = node.first;
            if (!begun) {
                return perform(node.partThatStands(stood), false);
            }
            boolean isThere = (there & node.value) != 0;
            return perform(isThere || yes == null ? yes : yes.next, true);
        }

        private int performLoop(Node node, boolean begun) {
            int code = perform(node.first, begun);
            return begun || code != 0 ? code : perform(node.first, true);
        }

        private int performSuspend(Node node, boolean begun) {
            if (begun || (there & node.value) == 0) {
                return perform(node.first, begun);
            }
            comeTo |= stood & node.pauses;
            return 1;
        }

        private int performTrap(Node node, boolean begun) {
            int code = perform(node.first, begun);
            if (code < 2) {
                return code;
            }
            if (code > 2) {
                return code - 1;
            }
            comeTo &= ~node.pauses;
            return 0;
        }

        private int performLocal(Node node, boolean begun) {
            weighAlone(node.first, begun, true);
            if (!learns(node.value)) {
                localOpen = true;
                return 0;
            }
            int code = perform(node.first, begun);
            forget(node.value);
            return code;
        }

        private int performRow(Node node, boolean begun) {
            Node part = begun ? node.first : node.partThatStands(stood);
            int code = perform(part, begun);
            for (Node next = part == null ? null : part.next; next != null && code == 0; next = next.next) {
                code = perform(next, true);
            }
            return code;
        }

        private int performBeside(Node node, boolean begun) {
            int code = 0;
            for (Node part = node.first; part != null; part = part.next) {
                if (begun || part.standsIn(stood)) {
                    code = Math.max(code, perform(part, begun));
                }
            }
            return code;
        }
    }

    /** Goes through the states of one program, or of two side by side, and keeps the run of the latest search. */
    private static final class Seeker {
        private static final int SOUGHT = 0;
        private static final int LEADS_ON = 1;
        private static final int LEADS_NOWHERE = 2;

        private static final int FOUND_NONE = 0;
        private static final int FOUND_ONE = 1;
        private static final int TOO_MANY = 2;

        private static final int STATES_FOUND = -2;

        private final Ticker ticker = new Ticker();
        private final int[] statesOfOne = new int[MOST_STATES];
        private final int[] statesOfTwo = new int[MOST_STATES];
        private final int[] cameFrom = new int[MOST_STATES];
        private final int[] cameBy = new int[MOST_STATES];
        private final int[] inputsOfRun = new int[MOST_STATES + 1];
        private int found = 0;
        private int ticksOfRun = 0;
        private boolean hasSought = false;
        private Program one = null;
        private Program two = null;
        private int output = NONE;
        private int nextOfOne = 0;
        private int nextOfTwo = 0;

        int told(int tick) {
            if (!hasSought) {
                return NONE;
            }
            if (tick == NONE) {
                return ticksOfRun;
            }
            if (tick == STATES_FOUND) {
                return found;
            }
            return tick >= 0 && tick < ticksOfRun && tick < inputsOfRun.length ? inputsOfRun[tick] : NONE;
        }

        /** Without another program: seeks a tick with that output, or one that fails; with it: a difference. */
        int seek(Program program, Program other, int what, int most) {
            one = program;
            two = other;
            output = what;
            int inputSets = 1 << program.inputs;
            hasSought = true;
            ticksOfRun = 0;
            found = 1;
            statesOfOne[0] = NOT_BEGUN;
            statesOfTwo[0] = NOT_BEGUN;
            for (int i = 0; i < found && i < MOST_STATES; i++) {
                for (int inputs = 0; inputs < inputSets; inputs++) {
                    int came = two == null ? goAlone(i, inputs) : goBoth(i, inputs);
                    if (came == SOUGHT) {
                        keepRun(i, inputs);
                        return FOUND_ONE;
                    }
                    if (came == LEADS_ON && isNew()) {
                        if (found >= most || found >= MOST_STATES) {
                            return TOO_MANY;
                        }
                        keepState(i, inputs);
                    }
                }
            }
            return FOUND_NONE;
        }

        private int goAlone(int i, int inputs) {
            boolean failed = ticker.go(one, statesOfOne[i], inputs) != 0;
            if (failed) {
                return output == NONE ? SOUGHT : LEADS_NOWHERE;
            }
            if (output != NONE && (ticker.outputs & 1 << output) != 0) {
                return SOUGHT;
            }
            nextOfOne = ticker.state;
            nextOfTwo = NOT_BEGUN;
            return LEADS_ON;
        }

        private int goBoth(int i, int inputs) {
            boolean oneFailed = ticker.go(one, statesOfOne[i], inputs) != 0;
            int outputsOfOne = ticker.outputs;
            nextOfOne = ticker.state;
            boolean twoFailed = ticker.go(two, statesOfTwo[i], inputs) != 0;
            nextOfTwo = ticker.state;
            if (oneFailed && twoFailed) {
                return LEADS_NOWHERE;
            }
            return oneFailed || twoFailed || outputsOfOne != ticker.outputs ? SOUGHT : LEADS_ON;
        }

        private boolean isNew() {
            for (int i = 0; i < found && i < MOST_STATES; i++) {
                if (statesOfOne[i] == nextOfOne && statesOfTwo[i] == nextOfTwo) {
                    return false;
                }
            }
            return true;
        }

        private void keepState(int from, int inputs) {
            statesOfOne[found] = nextOfOne;
            statesOfTwo[found] = nextOfTwo;
            cameFrom[found] = from;
            cameBy[found] = inputs;
            found++;
        }

        private void keepRun(int last, int inputs) {
            ticksOfRun = ticksTo(last) + 1;
            inputsOfRun[ticksOfRun - 1] = inputs;
            int i = last;
            for (int tick = ticksOfRun - 2; tick >= 0; tick--) {
                inputsOfRun[tick] = cameBy[i];
                i = cameFrom[i];
            }
        }

        private int ticksTo(int state) {
            int ticks = 0;
            for (int i = state; i > 0 && ticks < MOST_STATES; i = cameFrom[i]) {
                ticks++;
            }
            return ticks;
        }
    }
}
