import java.util.function.Consumer;
import java.util.function.Supplier;

/**
 * The sentences of promises 1 to 5 that name a boundary case, each with a test of its own; where the FAULT of a text
 * is, FaultTest asks.
 */
public final class CallsBoundaryTest {
    private static final Check CHECK = new Check();
    private static final int NONE = AssignFlow.NONE, BAD = AssignFlow.BAD;
    private static final int FULL = AssignFlow.FULL, SHAPE = AssignFlow.SHAPE;
    private static final int MOST = 240;
    // Far out, and such as would come back into their bounds if some of their bits were lost.
    private static final int[] FAR = {
        Integer.MIN_VALUE, Integer.MIN_VALUE + 1, -65535, -255, -1, 256, 257, 65537, 1 << 24, Integer.MAX_VALUE};
    private static final String MANY = "0;".repeat(MOST / 2);
    private static final String TWELVE = "$a;%b;$c;%d;$e;%f;$g;%h;$i;%j;$k;%l;";

    // Units of many kinds, empty ones, full ones and such with a FAULT.
    private static final String[] TEXTS = {
        "", " \n ", MANY, "#" + "|#".repeat(119) + ";", TWELVE + "a=b=c=d=e=f=g=h=i=j=k=l=1;l;R;a;",
        "2:W(#)3:D{C2;B3;S(#){L:B;O:C;}}(1);", "%a;T{a=1;T{X a;}K{R;}N{a=0;}}N{T{a;}N{}}a;",
        "{".repeat(20) + "}".repeat(20), "$a;{$b;b=a;}{%b;b=1;b=1;}S(0){L:$b;O:b;L:}",
        // The same PLACES, but those behind R are not REACHED, nor is the item or the stmt behind the other R.
        "$a;S(#){}", "R;S(#){}", "$a;T{}N{}", "R;T{}N{}", "S(#){L:#;}", "T{R;{}}K{}N{}",
        // The same PLACES, but a is ASSIGNED ahead of one N alone.
        "$a;T{a=1;}N{#;}", "$a;T{{#;}}N{#;}",
        "}", TWELVE + "$m;", "$a;a=1;R;{a;", MANY.substring(0, 239), "T{T{a", "W(#)".repeat(21)};

    private static void due(String what, long got, long want) {
        CHECK.due(what, got, want);
    }

    private static void same(String what, Supplier<AssignFlow> got, Supplier<AssignFlow> want) {
        String answered = Asker.everything(got);
        String asked = Asker.everything(want);
        CHECK.isTrue(what + ": {" + answered + "} is {" + asked + "}", answered.equals(asked));
    }

    private static Supplier<AssignFlow> reading(String... texts) {
        return () -> {
            AssignFlow flow = new AssignFlow();
            for (String text : texts) {
                Check.read(flow, text);
            }
            return flow;
        };
    }

    private static Supplier<AssignFlow> and(Supplier<AssignFlow> story, Consumer<AssignFlow> more) {
        return () -> {
            AssignFlow flow = story.get();
            more.accept(flow);
            return flow;
        };
    }

    private static AssignFlow collected(String text) {
        AssignFlow flow = new AssignFlow();
        Check.collect(flow, text);
        return flow;
    }

    private static void isEmptyUnit(String when, Supplier<AssignFlow> story) {
        Asker asker = new Asker(story);
        int[] counts = {0, 0, 0, 0, 1, 0};
        for (int k = 0; k < 6; k++) {
            int what = k;
            due(when + " count(" + what + ")", asker.ask(f -> f.count(what)), counts[what]);
            due(when + " variable(0, " + what + ")", asker.ask(f -> f.variable(0, what)), BAD);
        }
        for (int k = 0; k < 12; k++) {
            int a = k / 3;
            int b = k % 3;
            due(when + " fact(0, " + a + ", " + b + ")", asker.ask(f -> f.fact(0, a, b)), BAD);
            due(when + " place(0, " + a + ")", asker.ask(f -> f.place(0, a)), BAD);
        }
        due(when + " error(0, 0)", asker.ask(f -> f.error(0, 0)), NONE);
        due(when + " error(0, 1)", asker.ask(f -> f.error(0, 1)), NONE);
    }

    private static void promise1() {
        CHECK.sentence("Promise 1", "An empty unit; nothing COLLECTED.");
        isEmptyUnit("new", AssignFlow::new);
        due("new forget()", new AssignFlow().forget(), 0);
        due("new read()", new AssignFlow().read(), 0);
        due("the first sign collected", new AssignFlow().collect('#', 1), 1);
        same("read() of nothing", and(AssignFlow::new, AssignFlow::read), AssignFlow::new);
        AssignFlow one = new AssignFlow();
        AssignFlow other = new AssignFlow();
        Check.read(one, "$a;a;a=");
        Check.collect(one, "$b;");
        isEmptyUnit("an object beside another one", () -> other);
        due("fault() of an object beside another one", other.fault(), NONE);
    }

    private static AssignFlow collectedBy(String text, int n, long above) {
        AssignFlow flow = new AssignFlow();
        for (int i = 0; i < text.length(); i += n) {
            int many = Math.min(n, text.length() - i);
            long w = above;
            for (int k = 0; k < many; k++) {
                w = w & ~(255L << (8 * k)) | (long) text.charAt(i + k) << (8 * k);
            }
            due("collect by " + n, flow.collect(w, many), i + many);
        }
        return flow;
    }

    private static void lowestBytes() {
        CHECK.sentence("Promise 2", "The n lowest bytes of w, the lowest first, come behind what is COLLECTED: "
            + "how many there are.");
        String text = "$a;%b;a=1;b=!a&#;W(a){B;}I(b)#;E{}";
        for (int n = 1; n <= 8; n++) {
            for (long above : new long[] {0L, -1L, Long.MIN_VALUE, Long.MAX_VALUE, 0x7E7E7E7E7E7E7E7EL}) {
                int by = n;
                same("by " + n, and(() -> collectedBy(text, by, above), AssignFlow::read), reading(text));
            }
        }
        for (int c = 0; c < 256; c++) {
            AssignFlow flow = new AssignFlow();
            flow.collect(0x233B233B233B23L | (long) c << 56, 8);
            due("read() with byte " + c + " the highest", flow.read(), c == ';' ? 8 : SHAPE);
            due("collect a lone byte " + c, flow.collect(c, 1), 1);
            due("read() of it", flow.read(), c == ' ' || c == '\n' ? 0 : SHAPE);
        }
        AssignFlow flow = collected("$a;a");
        due("behind what is there", flow.collect('=' | '1' << 8 | ';' << 16, 3), 7);
        due("read() of both", flow.read(), 4);
        due("none are there behind a read()", flow.collect('#', 1), 1);
    }

    private static void badCollect() {
        CHECK.sentence("Promise 2", "BAD: n is not 1 .. 8");
        int[] wrong = {0, 9, 10, 16, 264, 65544, -8, Integer.MIN_VALUE + 8, 1 << 30};
        for (int have : new int[] {0, 1, 239, 240}) {
            Supplier<AssignFlow> story = () -> collected(MANY.substring(0, have));
            AssignFlow flow = story.get();
            for (int n : wrong) {
                due(have + " are there, n = " + n, flow.collect('#', n), BAD);
            }
            for (int n : FAR) {
                due(have + " are there, n = " + n, flow.collect('#', n), BAD);
            }
            due("as many are there as before", flow.count(3), have);
            Consumer<AssignFlow> refused = f -> {
                f.collect('#', 0);
                f.collect(-1L, 9);
            };
            same("read() behind it", and(and(story, refused), AssignFlow::read), and(story, AssignFlow::read));
        }
        due("n = 1", new AssignFlow().collect('#', 1), 1);
        due("n = 8", new AssignFlow().collect('#', 8), 8);
    }

    private static void fullCollect() {
        CHECK.sentence("Promise 2", "FULL: more than 240.");
        for (int n = 1; n <= 8; n++) {
            int by = n;
            AssignFlow flow = collected(MANY.substring(0, MOST - n));
            due("the last " + n + " that fit", flow.collect(0x2020202020202020L, n), MOST);
            for (int more = 1; more <= 8; more++) {
                due(more + " more", flow.collect(0L, more), FULL);
            }
            due("all 240 are there", flow.count(3), MOST);
            String nearly = MANY.substring(0, MOST + 1 - n);
            flow = collected(nearly);
            due(n + " behind " + nearly.length(), flow.collect(0x3B303B303B303B30L, n), FULL);
            due("as many are there as before", flow.count(3), nearly.length());
            same("none of the " + n + " was taken",
                and(() -> collected(nearly), f -> {
                    f.collect(0L, by);
                    f.read();
                }),
                and(() -> collected(nearly), AssignFlow::read));
        }
        AssignFlow flow = collected(MANY);
        due("FULL", flow.collect(';', 1), FULL);
        due("read() of all 240", flow.read(), MOST);
        due("there is room behind a read()", flow.collect('#', 8), 8);
    }

    private static void promise3() {
        CHECK.sentence("Promise 3", "Nothing is COLLECTED any more: how many there were.");
        due("none", new AssignFlow().forget(), 0);
        for (int have = 0; have <= MOST; have++) {
            AssignFlow flow = collected(MANY.substring(0, have));
            due("forget()", flow.forget(), have);
            due("count(3)", flow.count(3), 0);
            due("forget() again", flow.forget(), 0);
            due("the next ones are the first", flow.collect(0x3B233B23L, 4), 4);
            due("read() of these alone", flow.read(), 4);
        }
        AssignFlow full = collected(MANY);
        full.collect(';', 1);
        full.forget();
        Check.collect(full, MANY);
        due("240 fit again", full.count(3), MOST);
        for (String text : TEXTS) {
            Consumer<AssignFlow> forgotten = f -> {
                Check.collect(f, "}$");
                f.forget();
            };
            same("the unit and its fault() stay", and(reading(text), forgotten), reading(text));
        }
        AssignFlow flow = new AssignFlow();
        Check.read(flow, "#;");
        due("none are there behind a read()", flow.forget(), 0);
        Check.read(flow, "#");
        due("nor behind one with a FAULT", flow.forget(), 0);
    }

    private static void goodRead() {
        CHECK.sentence("Promise 4", "COLLECTED is the unit: how many PLACES; nothing is COLLECTED then.");
        due("nothing", new AssignFlow().read(), 0);
        due("the fewest", Check.of("").count(0), 0);
        due("blanks alone", Check.read(new AssignFlow(), " \n".repeat(120)), 0);
        due("two signs", Check.read(new AssignFlow(), "{}"), 1);
        due("240 signs", Check.read(new AssignFlow(), MANY), MOST);
        due("240 signs of one e", Check.read(new AssignFlow(), "#" + "&#".repeat(119) + ";"), MOST);
        due("238 blanks", Check.read(new AssignFlow(), " ".repeat(238) + "#;"), 2);
        AssignFlow flow = collected(MANY);
        flow.read();
        due("count(3)", flow.count(3), 0);
        due("forget()", flow.forget(), 0);
        due("read() again, of nothing", flow.read(), 0);
        isEmptyUnit("read() of nothing", () -> flow);
        for (String former : TEXTS) {
            for (String text : TEXTS) {
                same("nothing is left of <" + former + "> in <" + text + ">", reading(former, text), reading(text));
            }
        }
    }

    private static void refusedRead() {
        CHECK.sentence("Promise 4", "SHAPE: a FAULT; the unit is empty then.");
        int faults = 0;
        for (String text : TEXTS) {
            AssignFlow flow = new AssignFlow();
            int places = Check.read(flow, text);
            CHECK.isTrue("SHAPE of <" + text + ">, if it has a FAULT", (places == SHAPE) == (flow.fault() != NONE));
            if (places == SHAPE) {
                faults++;
                Supplier<AssignFlow> story = reading("$a;a;%b;b=1;b=1;R;a=1;", text);
                isEmptyUnit("behind <" + text + ">", story);
                CHECK.isTrue("as that of a new object", Asker.unit(story).equals(Asker.unit(AssignFlow::new)));
                due("nothing is COLLECTED", story.get().count(3), 0);
                due("a read() of nothing then", story.get().read(), 0);
            }
        }
        due("texts with a FAULT", faults, 6);
    }

    private static void promise5() {
        CHECK.sentence("Promise 5", "The place of the FAULT of the latest read(), as a sign of what was COLLECTED");
        due("the first sign", Check.of("}").fault(), 0);
        due("the last sign of 240", Check.of(MANY.substring(0, 239) + "}").fault(), 239);
        due("behind the last sign of 240", Check.of(MANY.substring(0, 239) + " ").fault(), 240);
        due("blanks are signs of what was COLLECTED", Check.of(" \n }").fault(), 3);
        AssignFlow pieces = collected("# ; ");
        Check.collect(pieces, " # }");
        pieces.read();
        due("the sign is counted from the first piece on", pieces.fault(), 7);
        AssignFlow flow = Check.of("#;#");
        due("fault()", flow.fault(), 3);
        due("fault() again", flow.fault(), 3);
        Check.collect(flow, MANY);
        flow.collect('#', 1);
        flow.collect('#', 0);
        due("not of what is COLLECTED since", flow.fault(), 3);
        flow.forget();
        due("forget() leaves it", flow.fault(), 3);
        Check.read(flow, "}");
        due("the latest", flow.fault(), 0);

        CHECK.sentence("Promise 5", "NONE: it had none, or before.");
        due("new", new AssignFlow().fault(), NONE);
        due("before the first read()", collected("}").fault(), NONE);
        due("before the first read(), FULL", and(() -> collected(MANY), f -> f.collect('}', 1)).get().fault(), NONE);
        due("before the first read(), forgotten", and(() -> collected("}"), AssignFlow::forget).get().fault(), NONE);
        due("a good one", Check.of("#;").fault(), NONE);
        due("a good one of 240 signs", Check.of(MANY).fault(), NONE);
        due("an empty one", Check.of("").fault(), NONE);
        due("a good one behind one with a FAULT", reading("}", "#;").get().fault(), NONE);
        due("a read() of nothing behind it", and(reading("}"), AssignFlow::read).get().fault(), NONE);
    }

    /** All refusals one behind the other. */
    private static void refusals(AssignFlow flow) {
        for (int far : FAR) {
            due("collect", flow.collect('#', far), BAD);
            due("place", flow.place(far, 0), BAD);
            due("place what", flow.place(0, far), BAD);
            due("fact", flow.fact(far, 0, 0), BAD);
            due("fact when", flow.fact(0, far, 0), BAD);
            due("fact what", flow.fact(0, 0, far), BAD);
            due("error", flow.error(far, 0), NONE);
            due("error what", flow.error(0, far), BAD);
            due("variable", flow.variable(far, 0), BAD);
            due("variable what", flow.variable(0, far), BAD);
            due("count", flow.count(far), BAD);
        }
    }

    private static void refusalsAreAnswers() {
        CHECK.sentence("Promises 2 to 10", "REFUSALS are answers: BAD (a number is none, or out of its bounds) first; "
            + "then what a call names.");
        AssignFlow full = collected(MANY);
        due("collect, n = 9 and FULL", full.collect('#', 9), BAD);
        due("collect, n = 0 and FULL", full.collect('#', 0), BAD);
        due("collect, n = 8 and FULL", full.collect('#', 8), FULL);
        AssignFlow flow = Check.of("$a;a;");
        due("error, what and none such", flow.error(1, 2), BAD);
        due("error, what and none such", flow.error(-1, -1), BAD);
        due("error, none such", flow.error(1, 1), NONE);
        due("place, both out", flow.place(3, 4), BAD);
        due("fact, all out", flow.fact(3, 4, 3), BAD);
        due("fact, what, and WHEN 2 of a stmt", flow.fact(0, 2, 3), BAD);
        due("variable, both out", flow.variable(1, 6), BAD);
        for (String text : TEXTS) {
            same("a refused call changes nothing", and(reading(text), CallsBoundaryTest::refusals), reading(text));
            Supplier<AssignFlow> open = and(reading(text), f -> Check.collect(f, "%q;q=1;"));
            same("nor what is COLLECTED", and(open, CallsBoundaryTest::refusals), open);
            same("nor what comes of it",
                and(and(open, CallsBoundaryTest::refusals), AssignFlow::read), and(open, AssignFlow::read));
        }
    }

    private static void manyCalls() {
        CHECK.sentence("Promises 1 to 10", "An object is used for at most 512 calls after it has been made");
        AssignFlow flow = new AssignFlow();
        int calls = 0;
        for (int round = 0; round < 16; round++) {
            for (int i = 1; i <= 30; i++) {
                due("collect", flow.collect(0x3B303B303B303B30L, 8), 8 * i);
            }
            due("read()", flow.read(), MOST);
            calls += 31;
        }
        for (; calls < 511; calls++) {
            due("call " + calls, flow.place(239, 0), '0');
        }
        due("call 512", flow.count(0), MOST);
    }

    private static void constants() {
        CHECK.sentence("Promises 1 to 10", "public static final int NONE = -1, BAD = -2, FULL = -3, SHAPE = -4;");
        due("NONE", NONE, -1);
        due("BAD", BAD, -2);
        due("FULL", FULL, -3);
        due("SHAPE", SHAPE, -4);
    }

    public static void main(String[] args) {
        constants();
        promise1();
        lowestBytes();
        badCollect();
        fullCollect();
        promise3();
        goodRead();
        refusedRead();
        promise5();
        refusalsAreAnswers();
        manyCalls();
        CHECK.end();
    }
}
