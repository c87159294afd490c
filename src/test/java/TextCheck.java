/** What a test of texts asks: each method makes a new object, reads one text and compares some of its answers. */
abstract class TextCheck {
    static final Check CHECK = new Check();
    static final int NONE = AssignFlow.NONE, BAD = AssignFlow.BAD, FULL = AssignFlow.FULL, SHAPE = AssignFlow.SHAPE;
    static final int BEFORE = 0, AFTER = 1, WHEN_TRUE = 2, WHEN_FALSE = 3;
    static final String TWELVE = "$a;%b;$c;%d;$e;%f;$g;%h;$i;%j;$k;%l;";
    static final int ALL_TWELVE = (1 << 12) - 1;

    static void due(String what, long got, long want) {
        CHECK.due(what, got, want);
    }

    static void fault(String text, int due) {
        AssignFlow flow = new AssignFlow();
        int read = Check.read(flow, text);
        due("fault() of <" + text + ">", flow.fault(), due);
        CHECK.isTrue("read() of <" + text + "> refuses", (read == SHAPE) == (due != NONE));
    }

    static void good(String text) {
        fault(text, NONE);
    }

    static void sorts(String text, String sorts) {
        AssignFlow flow = Check.of(text);
        due("<" + text + "> PLACES", flow.count(0), sorts.length());
        for (int p = 0; p < sorts.length(); p++) {
            due("<" + text + "> place(" + p + ", 0)", flow.place(p, 0), sorts.charAt(p));
        }
    }

    private static void ofAllPlaces(String text, int what, int[] answers) {
        AssignFlow flow = Check.of(text);
        due("<" + text + "> PLACES", flow.count(0), answers.length);
        for (int p = 0; p < answers.length; p++) {
            due("<" + text + "> place(" + p + ", " + what + ")", flow.place(p, what), answers[p]);
        }
    }

    static void firstSigns(String text, int... signs) {
        ofAllPlaces(text, 1, signs);
    }

    static void arounds(String text, int... arounds) {
        ofAllPlaces(text, 2, arounds);
    }

    static void variablesOfPlaces(String text, int... variables) {
        ofAllPlaces(text, 3, variables);
    }

    /** Whether PLACE p is REACHED then, what is ASSIGNED for sure and what for sure is not. */
    static void fact(String text, int p, int when, int reached, int sure, int not) {
        AssignFlow flow = Check.of(text);
        String name = "<" + text + "> fact(" + p + ", " + when + ", ";
        due(name + "0)", flow.fact(p, when, 0), reached);
        due(name + "1)", flow.fact(p, when, 1), sure);
        due(name + "2)", flow.fact(p, when, 2), not);
    }

    /** At the beginning of a unit, and two PLACES further on, it is the same. */
    static void isReached(String text, int p, int when, int reached) {
        String name = "<" + text + "> fact(" + p + ", " + when + ", 0)";
        due(name, Check.of(text).fact(p, when, 0), reached);
        due(name + " further on", Check.of("0;" + text).fact(p + 2, when, 0), reached);
    }

    static void errors(String text, int... placesAndKinds) {
        AssignFlow flow = Check.of(text);
        int many = placesAndKinds.length / 2;
        due("<" + text + "> count(2)", flow.count(2), many);
        for (int i = 0; i < many; i++) {
            due("<" + text + "> error(" + i + ", 0)", flow.error(i, 0), placesAndKinds[2 * i]);
            due("<" + text + "> error(" + i + ", 1)", flow.error(i, 1), placesAndKinds[2 * i + 1]);
        }
        due("<" + text + "> error(" + many + ", 0)", flow.error(many, 0), NONE);
        due("<" + text + "> error(" + many + ", 1)", flow.error(many, 1), NONE);
    }

    static void variable(String text, int v, int... answers) {
        AssignFlow flow = Check.of(text);
        for (int what = 0; what < answers.length; what++) {
            due("<" + text + "> variable(" + v + ", " + what + ")", flow.variable(v, what), answers[what]);
        }
    }

    static void counts(String text, int... counts) {
        AssignFlow flow = Check.of(text);
        for (int what = 0; what < counts.length; what++) {
            due("<" + text + "> count(" + what + ")", flow.count(what), counts[what]);
        }
    }
}
