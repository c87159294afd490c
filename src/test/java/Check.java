import java.io.IOException;
import java.nio.file.Files;
import java.nio.file.Path;

/** Counts the answers that are not as due, and reads whole texts into an AssignFlow. */
final class Check {
    private static final Path DOCUMENT = Path.of("../shared/DOC.md");

    private final String document = wordsOf(document());
    private String sentence = "";
    private int asked = 0;
    private int wrong = 0;
    private int done = 0;

    /** DOC.md as it stands there, nothing if it is not here. */
    static String document() {
        try {
            return Files.isReadable(DOCUMENT) ? Files.readString(DOCUMENT) : "";
        } catch (IOException e) {
            throw new IllegalStateException(e);
        }
    }

    static String wordsOf(String text) {
        return text.replaceAll("\\s+", " ").strip();
    }

    /** From here on, the answers are due because these words of the document ask for them. */
    void sentence(String promise, String words) {
        endSentence();
        sentence = promise + ", \"" + words + "\": ";
        if (!document.isEmpty()) {
            isTrue("the document says so", document.contains(words));
        }
        asked = done;
    }

    /** A sentence without a test of its own would pass whatever the class answers. */
    private void endSentence() {
        if (!sentence.isEmpty()) {
            isTrue("some answer was asked for", done > asked);
        }
    }

    void due(String what, long got, long want) {
        done++;
        if (got != want) {
            wrong++;
            if (wrong <= 50) {
                System.out.println(sentence + what + " answered " + got + ", due is " + want);
            }
        }
    }

    void isTrue(String what, boolean holds) {
        due(what, holds ? 1 : 0, 1);
    }

    int wrong() {
        return wrong;
    }

    void end() {
        endSentence();
        if (!sentence.isEmpty() && document.isEmpty()) {
            System.out.println(DOCUMENT + " is not here: the words of the sentences were not compared with it");
        }
        System.out.println(done + " answers, " + wrong + " not as due");
        if (wrong != 0) {
            System.exit(1);
        }
    }

    static void collect(AssignFlow flow, String text) {
        for (int i = 0; i < text.length(); i += 8) {
            int n = Math.min(8, text.length() - i);
            long w = 0;
            for (int k = 0; k < n; k++) {
                w |= (long) (text.charAt(i + k) & 255) << (8 * k);
            }
            if (flow.collect(w, n) < 0) {
                throw new IllegalStateException("not collected: " + text);
            }
        }
    }

    static int read(AssignFlow flow, String text) {
        flow.forget();
        collect(flow, text);
        return flow.read();
    }

    static AssignFlow of(String text) {
        AssignFlow flow = new AssignFlow();
        read(flow, text);
        return flow;
    }
}
