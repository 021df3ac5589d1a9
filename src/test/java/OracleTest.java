import java.util.ArrayList;
import java.util.List;
import java.util.Random;

/** Holds the class against the slow oracle, over programs and calls that a fixed seed draws. */
public final class OracleTest {
    private final Check check;
    private final Random random;
    private final SignalHouse house = new SignalHouse();
    private final Oracle oracle = new Oracle();
    private final String run;
    private final int[] stood = new int[40];
    private int stoodCount = 0;
    private static final int[] results = new int[16];

    private OracleTest(Check check, long seed) {
        this.check = check;
        this.random = new Random(seed);
        this.run = "seed " + seed + ": ";
    }

    public static void main(String[] args) {
        int runs = args.length > 0 ? Integer.parseInt(args[0]) : 1500;
        long base = args.length > 1 ? Long.parseLong(args[1]) : 20261115L;
        Check check = new Check();
        for (int i = 0; i < runs; i++) {
            new OracleTest(check, base + i).go();
        }
        System.out.println("ticks done " + results[0] + ", failed with 1 " + results[1] + ", with 2 " + results[2]
            + "; searches 0/1/2 " + results[4] + "/" + results[5] + "/" + results[6]
            + "; differs 0/1/2 " + results[8] + "/" + results[9] + "/" + results[10]
            + "; back true " + results[7] + "; faults 0..4 " + results[3] + " " + results[12] + " " + results[13]
            + " " + results[14] + " " + results[15]);
        check.end();
    }

    private void go() {
        int modules = 1 + random.nextInt(3);
        for (int m = 0; m < modules; m++) {
            load(moduleText());
            int calls = 20 + random.nextInt(80);
            for (int i = 0; i < calls; i++) {
                call();
            }
        }
    }

    private void load(String text) {
        for (int i = 0; i < text.length(); ) {
            int n = Math.min(text.length() - i, 1 + random.nextInt(8));
            long word = Check.word(text.substring(i, i + n));
            if (n < 8 && random.nextBoolean()) {
                word |= random.nextLong() << (8 * n);
            }
            check.due(run + "type in " + text, house.type(word, n), oracle.type(word, n));
            i += n;
        }
        check.due(run + "total(1)", house.total(1), oracle.total(1));
        check.due(run + "module of " + text, Check.module(house), oracle.module());
        check.due(run + "fault(0) of " + text, house.fault(0), oracle.fault(0));
        check.due(run + "fault(1) of " + text, house.fault(1), oracle.fault(1));
        int fault = oracle.fault(0);
        results[fault == 0 ? 3 : 11 + fault]++;
        for (int k = 0; k < oracle.total(0); k++) {
            for (int what = 0; what < 5; what++) {
                check.due(run + "program(" + k + ", " + what + ")", house.program(k, what), oracle.program(k, what));
            }
            for (int what = 100; what < 132; what++) {
                check.due(run + "program(" + k + ", " + what + ")", house.program(k, what), oracle.program(k, what));
            }
        }
    }

    private void call() {
        int instance = random.nextInt(20) == 0 ? random.nextInt(12) - 2 : random.nextInt(Math.max(1, oracle.total(2)));
        int k = random.nextInt(20) == 0 ? random.nextInt(9) - 1 : random.nextInt(Math.max(1, oracle.total(0)));
        int most = random.nextInt(4) == 0 ? random.nextInt(305) - 2 : 1 + random.nextInt(40);
        switch (random.nextInt(24)) {
            case 0:
            case 1:
                check.due(run + "make(" + k + ")", house.make(k), oracle.make(k));
                break;
            case 2: {
                int set = stoodCount > 0 && random.nextBoolean() ? stood[random.nextInt(stoodCount)] : random.nextInt(70) - 4;
                boolean due = oracle.back(instance, set);
                results[7] += due ? 1 : 0;
                check.due(run + "back(" + instance + ", " + set + ")", house.back(instance, set), due);
                break;
            }
            case 3: {
                int what = random.nextInt(5) - 1;
                int due = oracle.search(k, what, most);
                if (due != Oracle.NONE) {
                    results[4 + due]++;
                }
                check.due(run + "search(" + k + ", " + what + ", " + most + ")", house.search(k, what, most), due);
                runs();
                break;
            }
            case 4: {
                int other = random.nextInt(7) - 1;
                int due = oracle.differ(k, other, most);
                if (due != Oracle.NONE) {
                    results[8 + due]++;
                }
                check.due(run + "differ(" + k + ", " + other + ", " + most + ")", house.differ(k, other, most), due);
                runs();
                break;
            }
            case 5: {
                int what = random.nextInt(6) - 2;
                check.due(run + "total(" + what + ")", house.total(what), oracle.total(what));
                check.due(run + "fault(" + what + ")", house.fault(what), oracle.fault(what));
                check.due(run + "run(" + what + ")", house.run(what), oracle.run(what));
                break;
            }
            default:
                tick(instance);
                break;
        }
    }

    private void runs() {
        for (int i = -3; i <= oracle.run(-1) + 1; i++) {
            check.due(run + "run(" + i + ")", house.run(i), oracle.run(i));
        }
    }

    private void tick(int instance) {
        int inputs = random.nextInt(30) == 0 ? random.nextInt(40) - 2 : random.nextInt(8) & random.nextInt(8);
        int due = oracle.tick(instance, inputs);
        if (due >= 0) {
            results[due]++;
        }
        check.due(run + "tick(" + instance + ", " + inputs + ")", house.tick(instance, inputs), due);
        check.due(run + "out(" + instance + ")", house.out(instance), oracle.out(instance));
        check.due(run + "stands(" + instance + ")", house.stands(instance), oracle.stands(instance));
        check.due(run + "ticks(" + instance + ")", house.ticks(instance), oracle.ticks(instance));
        if (oracle.stands(instance) != Oracle.NONE && stoodCount < stood.length) {
            stood[stoodCount++] = oracle.stands(instance);
        }
    }

    // ---- texts

    private String moduleText() {
        StringBuilder text = new StringBuilder();
        int programs = 1 + random.nextInt(3);
        int inputs = random.nextInt(4);
        int outputs = 1 + random.nextInt(3);
        String like = "";
        for (int i = 0; i < programs; i++) {
            boolean same = i > 0 && random.nextInt(3) > 0;
            if (!same) {
                inputs = random.nextInt(40) == 0 ? 5 : random.nextInt(4);
                outputs = 1 + random.nextInt(3);
            }
            String in = "abcdef".substring(0, inputs);
            String out = "xyz".substring(0, outputs);
            String body = same && random.nextInt(3) > 0 ? changed(like) : new Drawn(in, out).beside(0, size());
            like = body;
            text.append((char) ('A' + i)).append('(').append(in).append(')').append(out).append('{').append(body).append('}');
        }
        String all = text.toString();
        if (random.nextInt(12) == 0) {
            all = changed(all);
        }
        return all.length() > 500 ? all.substring(0, 500) : all;
    }

    private int size() {
        return random.nextInt(30) == 0 ? 60 + random.nextInt(60) : 4 + random.nextInt(25);
    }

    /** One character is another one, is gone, or is new. */
    private String changed(String text) {
        String signs = "01!?*#$.@&^%~()|;abcxyzstABT{}";
        String sign = "" + signs.charAt(random.nextInt(signs.length()));
        int at = random.nextInt(text.length());
        switch (random.nextInt(4)) {
            case 0:
                return text.substring(0, at) + text.substring(at + 1);
            case 1:
                return text.substring(0, at) + sign + text.substring(at);
            case 2:
                return text.substring(0, at) + sign + text.substring(at + 1);
            default:
                return swapped(text, at);
        }
    }

    /** A change that mostly keeps the text whole. */
    private String swapped(String text, int at) {
        char c = text.charAt(at);
        String alike = c == '0' || c == '1' ? "01" : c == '|' || c == ';' ? "|;" : c == '%' || c == '~' || c == '#' ? "%~#"
            : c >= 'x' && c <= 'z' ? "xyz" : c >= 'a' && c <= 'c' ? "abc" : "" + c;
        return text.substring(0, at) + alike.charAt(random.nextInt(alike.length())) + text.substring(at + 1);
    }

    private final class Drawn {
        private final String inputs;
        private final List<Character> emitted = new ArrayList<>();
        private final List<Character> traps = new ArrayList<>();
        private final boolean inward = random.nextBoolean();
        private final boolean careless = random.nextInt(30) == 0;
        private final int outputs;

        Drawn(String inputs, String outputs) {
            this.inputs = inputs;
            this.outputs = outputs.length();
            for (char c : outputs.toCharArray()) {
                emitted.add(c);
            }
        }

        private char anySignal() {
            if (careless && random.nextInt(10) == 0) {
                return (char) ('a' + random.nextInt(26));
            }
            int i = random.nextInt(inputs.length() + emitted.size());
            return i < inputs.length() ? inputs.charAt(i) : emitted.get(i - inputs.length());
        }

        private char anyEmitted() {
            if (careless && random.nextInt(10) == 0) {
                return (char) ('a' + random.nextInt(26));
            }
            if (inward && emitted.size() > outputs && random.nextInt(4) > 0) {
                return emitted.get(outputs + random.nextInt(emitted.size() - outputs));
            }
            return emitted.get(random.nextInt(emitted.size()));
        }

        String beside(int depth, int size) {
            int parts = size > 3 && random.nextInt(3) == 0 ? 2 + random.nextInt(2) : 1;
            StringBuilder all = new StringBuilder(row(depth, size / parts));
            for (int i = 1; i < parts; i++) {
                all.append('|').append(row(depth, size / parts));
            }
            return all.toString();
        }

        private String row(int depth, int size) {
            int parts = size > 1 ? 1 + random.nextInt(3) : 1;
            StringBuilder all = new StringBuilder(unit(depth, size / parts));
            for (int i = 1; i < parts; i++) {
                all.append(';').append(unit(depth, size / parts));
            }
            return all.toString();
        }

        private String body(int depth, int size) {
            return "(" + beside(depth + 1, size) + ")";
        }

        private String unit(int depth, int size) {
            if (size <= 1 || depth >= 9) {
                return leaf();
            }
            switch (random.nextInt(11)) {
                case 0:
                case 1:
                    return "?" + anySignal() + body(depth, size / 2) + body(depth, size / 2);
                case 2:
                case 3:
                    return loop(depth, size - 1);
                case 4:
                    return "#" + anySignal() + body(depth, size - 1);
                case 5:
                case 6:
                    return trap(depth, size - 1);
                case 7:
                case 8:
                    return local(depth, size - 1);
                case 9:
                    return (random.nextBoolean() ? "%" : "~") + anySignal() + body(depth, size - 1);
                default:
                    return body(depth, size - 1);
            }
        }

        private String leaf() {
            switch (random.nextInt(9)) {
                case 0:
                    return "0";
                case 1:
                case 2:
                case 3:
                    return "1";
                case 4:
                    return random.nextInt(3) == 0 ? "&" + anySignal() : "!" + anyEmitted();
                case 5:
                    return random.nextInt(3) == 0 ? "^" + anyEmitted() : "1";
                case 6:
                    if (careless && random.nextInt(4) == 0) {
                        return "." + (char) ('A' + random.nextInt(26));
                    }
                    return traps.isEmpty() ? "!" + anyEmitted() : "." + traps.get(random.nextInt(traps.size()));
                default:
                    return "!" + anyEmitted();
            }
        }

        private String loop(int depth, int size) {
            String within = beside(depth + 2, size);
            switch (random.nextInt(6)) {
                case 0:
                    return "*(" + within + ")";
                case 1:
                case 2:
                    return "*(1;(" + within + "))";
                default:
                    return "*((" + within + ");1)";
            }
        }

        private String trap(int depth, int size) {
            char name = (char) ('S' + random.nextInt(4));
            traps.add(name);
            String all = "$" + name + body(depth, size);
            traps.remove(traps.size() - 1);
            return all;
        }

        private String local(int depth, int size) {
            char name = (char) ('s' + random.nextInt(5));
            if (emitted.contains(name) && !careless) {
                return body(depth, size);
            }
            emitted.add(name);
            String all = "@" + name + body(depth, size);
            emitted.remove(emitted.size() - 1);
            return all;
        }
    }
}
