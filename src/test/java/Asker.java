import java.util.function.Supplier;
import java.util.function.ToIntFunction;

/**
 * Asks more questions than one object may be asked (512 calls): when they run out, the story that led to the object
 * is told anew to another one. So the story must not be long, and a question must not change the object.
 */
final class Asker {
    private static final int MOST_QUESTIONS = 300;

    private final Supplier<AssignFlow> story;
    private AssignFlow flow = null;
    private int asked = 0;

    Asker(Supplier<AssignFlow> story) {
        this.story = story;
    }

    int ask(ToIntFunction<AssignFlow> question) {
        if (flow == null || asked >= MOST_QUESTIONS) {
            flow = story.get();
            asked = 0;
        }
        asked++;
        return question.applyAsInt(flow);
    }

    /** Every answer that does not change the object, a step beyond each bound too. */
    static String everything(Supplier<AssignFlow> story) {
        Asker asker = new Asker(story);
        StringBuilder out = new StringBuilder();
        out.append("fault ").append(asker.ask(AssignFlow::fault));
        out.append("; collected ").append(asker.ask(f -> f.count(3)));
        return out.append(unit(asker)).toString();
    }

    /** The same without fault() and what is COLLECTED. */
    static String unit(Supplier<AssignFlow> story) {
        return unit(new Asker(story));
    }

    private static String unit(Asker asker) {
        StringBuilder out = new StringBuilder("; counts");
        for (int what : new int[] {-1, 0, 1, 2, 4, 5, 6}) {
            out.append(' ').append(asker.ask(f -> f.count(what)));
        }
        int places = asker.ask(f -> f.count(0));
        for (int i = -1; i <= places; i++) {
            int p = i;
            out.append("; place ").append(p).append(':');
            for (int k = -1; k <= 4; k++) {
                int what = k;
                out.append(' ').append(asker.ask(f -> f.place(p, what)));
            }
            appendFacts(out, asker, p);
        }
        int errors = asker.ask(f -> f.count(2));
        for (int k = -1; k <= errors; k++) {
            int i = k;
            out.append("; error ").append(i).append(": ").append(asker.ask(f -> f.error(i, 0)));
            out.append(' ').append(asker.ask(f -> f.error(i, 1))).append(' ').append(asker.ask(f -> f.error(i, 2)));
        }
        appendVariables(out, asker);
        return out.toString();
    }

    private static void appendFacts(StringBuilder out, Asker asker, int p) {
        for (int k = 0; k < 12; k++) {
            int when = k / 3;
            int what = k % 3;
            out.append(' ').append(asker.ask(f -> f.fact(p, when, what)));
        }
    }

    private static void appendVariables(StringBuilder out, Asker asker) {
        int variables = asker.ask(f -> f.count(1));
        for (int i = -1; i <= variables; i++) {
            int v = i;
            out.append("; variable ").append(v).append(':');
            for (int k = -1; k <= 6; k++) {
                int what = k;
                out.append(' ').append(asker.ask(f -> f.variable(v, what)));
            }
        }
    }
}
