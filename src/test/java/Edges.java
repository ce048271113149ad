import java.io.IOException;
import java.nio.file.Files;
import java.nio.file.Path;

/**
 * Asks answers that are due to one sentence of the document each. The sentence is told in the document's own
 * words, and these are looked up there, so that a test can't go on for a sentence that is gone.
 */
final class Edges {
    static final String STATE = "throws.IllegalStateException";
    static final String ARGUMENT = "throws.IllegalArgumentException";
    static final String UNSUPPORTED = "throws.UnsupportedOperationException";
    static final String INDEX = "throws.IndexOutOfBoundsException";
    static final String ELEMENT = "throws.NoSuchElementException";
    static final int NONE = -1;
    static final int LAST_TICK = 100000000;
    static final int LEAST = Integer.MIN_VALUE;
    static final int GREATEST = Integer.MAX_VALUE;

    private final Check check = new Check();
    private final String document;
    private String sentence = "";

    Edges() throws IOException {
        document = Files.readString(Path.of("../shared/DOC.md"));
    }

    /** The sentence to which the answers asked from here on are due. */
    void says(String words) {
        sentence = words;
        check.due("the document has the words \"" + words + "\"", true, () -> document.contains(words));
    }

    void due(String call, Object want, Check.Call made) {
        check.due("\"" + sentence + "\": " + call, want, made);
    }

    void finish(String test) {
        check.finish(test);
    }

    /** Places or ticks on a ring of 32, the lesser way around, by walking. */
    static int apart(int place, int other) {
        int steps = 0;
        while ((place + steps) % 32 != other && (other + steps) % 32 != place) {
            steps++;
        }
        return steps;
    }

    /** So many planes of so many relays, all at the same phase, standing still. */
    static MoonRelay still(int planes, int relays, int phase) {
        MoonRelay x = new MoonRelay();
        for (int i = 0; i < planes; i++) {
            x.plane(relays, phase, 0);
        }
        return x;
    }

    /** One relay that goes on by one place a tick, over the place of the tick. */
    static MoonRelay hand() {
        MoonRelay x = new MoonRelay();
        x.plane(1, 0, 1);
        return x;
    }
}
