import java.io.IOException;
import java.nio.file.Files;
import java.nio.file.Path;
import java.util.Set;
import java.util.TreeSet;

/**
 * Ties checks to the sentence of DOC.md that they hold, and to its promise. A sentence must stand in the
 * document as it is quoted, and be tried on both sides of its boundary.
 */
final class Sentences {
    private final Check check = new Check();
    private final String document;
    private final Set<Integer> promises = new TreeSet<>();
    private String held = null;
    private int count = 0;
    private int triedWithin = 0;
    private int triedBeyond = 0;

    Sentences() throws IOException {
        Path path = Path.of("../shared/DOC.md");
        document = Files.isReadable(path) ? plain(Files.readString(path)) : null;
        if (document == null) {
            System.out.println("no document at " + path + ": what is quoted is not looked up");
        }
    }

    void hold(int promise, String words) {
        endHeld();
        check.due("the document says \"" + words + "\"", document == null || document.contains(plain(words)), true);
        held = "promise " + promise + " \"" + words + "\": ";
        promises.add(promise);
        count++;
        triedWithin = 0;
        triedBeyond = 0;
    }

    /** On the side that the sentence allows, at its very edge where there is one. */
    void within(String call, long got, long want) {
        triedWithin++;
        check.due(held + call, got, want);
    }

    void within(String call, boolean got, boolean want) {
        within(call, got ? 1 : 0, want ? 1 : 0);
    }

    /** The first value on the other side, and some further ones. */
    void beyond(String call, long got, long want) {
        triedBeyond++;
        check.due(held + call, got, want);
    }

    void beyond(String call, boolean got, boolean want) {
        beyond(call, got ? 1 : 0, want ? 1 : 0);
    }

    /** The text has no fault. */
    void reads(String text) {
        SignalHouse house = new SignalHouse();
        within("module() of " + text + " throws", Check.load(house, text) == SignalHouse.NONE, false);
        within("fault(0) of " + text, house.fault(0), 0);
        within("fault(1) of " + text, house.fault(1), 0);
    }

    void refuses(String text, int kind, int place) {
        SignalHouse house = new SignalHouse();
        beyond("module() of " + text + " throws", Check.load(house, text) == SignalHouse.NONE, true);
        beyond("fault(0) of " + text, house.fault(0), kind);
        beyond("fault(1) of " + text, house.fault(1), place);
    }

    void end(int... due) {
        endHeld();
        for (int promise : due) {
            check.due("promise " + promise + " has a sentence here", promises.contains(promise), true);
        }
        System.out.println(count + " sentences of promises " + promises);
        check.end();
    }

    private void endHeld() {
        if (held != null) {
            check.due(held + "tried within", triedWithin > 0, true);
            check.due(held + "tried beyond", triedBeyond > 0, true);
        }
    }

    private static String plain(String words) {
        return words.replaceAll("\\s+", " ");
    }
}
