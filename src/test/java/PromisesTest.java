/** Each promise of the document with ordinary inputs, the edges that it names, and wrong inputs. */
public final class PromisesTest {
    private static final Check CHECK = new Check();
    private static final int NONE = AssignFlow.NONE, BAD = AssignFlow.BAD, FULL = AssignFlow.FULL;
    private static final int[] OUT = {Integer.MIN_VALUE, -1, 1000, Integer.MAX_VALUE};

    private static void due(String what, long got, long want) {
        CHECK.due(what, got, want);
    }

    private static void isEmptyUnit(String when, AssignFlow flow) {
        due(when + " count(0)", flow.count(0), 0);
        due(when + " count(1)", flow.count(1), 0);
        due(when + " count(2)", flow.count(2), 0);
        due(when + " count(4)", flow.count(4), 1);
        due(when + " count(5)", flow.count(5), 0);
        due(when + " place(0, 0)", flow.place(0, 0), BAD);
        due(when + " fact(0, 0, 0)", flow.fact(0, 0, 0), BAD);
        due(when + " error(0, 0)", flow.error(0, 0), NONE);
        due(when + " variable(0, 0)", flow.variable(0, 0), BAD);
    }

    private static void newObject() {
        AssignFlow flow = new AssignFlow();
        isEmptyUnit("new", flow);
        due("new count(3)", flow.count(3), 0);
        due("new fault()", flow.fault(), NONE);
        due("new forget()", flow.forget(), 0);
        due("constants", AssignFlow.NONE == -1 && AssignFlow.BAD == -2 ? 1 : 0, 1);
        due("constants", AssignFlow.FULL == -3 && AssignFlow.SHAPE == -4 ? 1 : 0, 1);
    }

    private static void collect() {
        AssignFlow flow = new AssignFlow();
        for (int n : new int[] {0, -1, 9, Integer.MIN_VALUE, Integer.MAX_VALUE}) {
            due("collect(0, " + n + ")", flow.collect(0, n), BAD);
        }
        due("nothing came of it", flow.count(3), 0);
        // The lowest byte first, and no more than n of them.
        due("collect $a;", flow.collect(0xFFFFFFFFFF3B6124L, 3), 3);
        due("collect 0;", flow.collect(0x3B30L, 2), 5);
        due("read", flow.read(), 3);
        due("sort", flow.place(2, 0), '0');
        long blanks = 0x2020202020202020L;
        for (int i = 1; i <= 29; i++) {
            due("collect blanks", flow.collect(blanks, 8), 8 * i);
        }
        due("collect 7", flow.collect(blanks, 7), 239);
        due("too many", flow.collect(blanks, 2), FULL);
        due("still as many", flow.count(3), 239);
        due("BAD comes first", flow.collect(blanks, 9), BAD);
        due("the last one", flow.collect(0xFF20L, 1), 240);
        due("one more", flow.collect(blanks, 1), FULL);
        due("read blanks", flow.read(), 0);
        due("bytes have no sign", flow.collect(-1L, 8), 8);
        due("byte 255 is no sign of a unit", flow.read(), AssignFlow.SHAPE);
        due("its place", flow.fault(), 0);
    }

    private static void forget() {
        AssignFlow flow = Check.of("$a;a=1;");
        Check.collect(flow, "$b;b");
        due("forget()", flow.forget(), 4);
        due("forget() again", flow.forget(), 0);
        due("count(3)", flow.count(3), 0);
        due("the unit stays", flow.count(0), 4);
        Check.collect(flow, "1;");
        due("read() after it", flow.read(), 2);
    }

    private static void read() {
        AssignFlow flow = new AssignFlow();
        due("read() of nothing", flow.read(), 0);
        due("read()", Check.read(flow, "$a;a=#;"), 4);
        due("nothing is collected then", flow.count(3), 0);
        due("a fault", Check.read(flow, "$a;a=;"), AssignFlow.SHAPE);
        due("nothing is collected then either", flow.count(3), 0);
        isEmptyUnit("after a fault", flow);
        due("read() of nothing again", flow.read(), 0);
        due("fault()", flow.fault(), NONE);
        // As many PLACES as signs.
        due("a full text", Check.read(flow, "$a;" + "!a;".repeat(79)), 238);
        due("the last place", flow.place(237, 0), 'a');
        due("behind it", flow.place(238, 0), BAD);
        due("a full text of operators", Check.read(flow, "#" + "|#".repeat(119) + ";"), 240);
        due("its last place", flow.place(239, 1), 238);
        due("a small unit after a large one", Check.read(flow, "#;"), 2);
        due("nothing of the large one is left", flow.place(2, 0), BAD);
    }

    private static void fault() {
        AssignFlow flow = new AssignFlow();
        due("before", flow.fault(), NONE);
        Check.collect(flow, "E");
        due("before read()", flow.fault(), NONE);
        flow.read();
        due("at the first sign", flow.fault(), 0);
        Check.collect(flow, "  #\n");
        due("collect() leaves it", flow.fault(), 0);
        flow.forget();
        due("forget() leaves it", flow.fault(), 0);
        Check.read(flow, "  #\n");
        due("the length, blanks too", flow.fault(), 4);
        Check.read(flow, "#;");
        due("none", flow.fault(), NONE);
    }

    /** Rows of sort, first sign, PLACE around, VARIABLE. */
    private static void places(String text, int[][] rows) {
        AssignFlow flow = Check.of(text);
        due("PLACES of " + text, flow.count(0), rows.length);
        for (int p = 0; p < rows.length; p++) {
            for (int what = 0; what < 4; what++) {
                due(text + " place(" + p + ", " + what + ")", flow.place(p, what), rows[p][what]);
            }
        }
    }

    private static void place() {
        places("$a;%b;b=a;", new int[][] {
            {'$', 0, -1, 0}, {'%', 3, -1, 1}, {';', 6, -1, -1}, {'=', 6, 2, 1}, {'a', 8, 3, 0}});
        // Operators go from the left, and brackets are no signs of theirs; a stmt begins with its bracket.
        places("(#|0)&(1)&!(#);", new int[][] {
            {';', 0, -1, -1}, {'&', 1, 0, -1}, {'&', 1, 1, -1}, {'|', 1, 2, -1}, {'#', 1, 3, -1}, {'0', 3, 3, -1},
            {'1', 7, 2, -1}, {'!', 10, 1, -1}, {'#', 12, 7, -1}});
        places("#|#&#|#;", new int[][] {
            {';', 0, -1, -1}, {'|', 0, 0, -1}, {'|', 0, 1, -1}, {'#', 0, 2, -1}, {'&', 2, 2, -1}, {'#', 2, 4, -1},
            {'#', 4, 4, -1}, {'#', 6, 1, -1}});
        places("#?#:#?0:1;", new int[][] {
            {';', 0, -1, -1}, {'?', 0, 0, -1}, {'#', 0, 1, -1}, {'#', 2, 1, -1}, {'?', 4, 1, -1}, {'#', 4, 4, -1},
            {'0', 6, 4, -1}, {'1', 8, 4, -1}});
        places("2:D{}(#);", new int[][] {{':', 0, -1, -1}, {'D', 2, 0, -1}, {'{', 3, 1, -1}, {'#', 6, 1, -1}});
        places("F(#;0)B;", new int[][] {{'F', 0, -1, -1}, {'#', 2, 0, -1}, {'0', 4, 0, -1}, {'B', 6, 0, -1}});
        // The { } of S and T are no PLACES.
        places("S(#){L:$a;O:B;}", new int[][] {
            {'S', 0, -1, -1}, {'#', 2, 0, -1}, {'$', 7, 0, 0}, {'B', 12, 0, -1}});
        places("T{R;}K{X 1;}N{{}}", new int[][] {
            {'T', 0, -1, -1}, {'R', 2, 0, -1}, {'X', 7, 0, -1}, {'1', 9, 2, -1}, {'{', 14, 0, -1}});
        places("I(#){}E W(#)C;", new int[][] {
            {'I', 0, -1, -1}, {'#', 2, 0, -1}, {'{', 4, 0, -1}, {'W', 8, 0, -1}, {'#', 10, 3, -1}, {'C', 12, 3, -1}});
        AssignFlow flow = Check.of("$a;");
        for (int out : OUT) {
            due("place(" + out + ", 0)", flow.place(out, 0), BAD);
            due("place(0, " + out + ")", flow.place(0, out), BAD);
        }
        due("place(1, 0)", flow.place(1, 0), BAD);
        due("place(0, 4)", flow.place(0, 4), BAD);
    }

    /** Whether PLACE p is reached then, what is assigned for sure and what for sure is not. */
    private static void fact(AssignFlow flow, int p, int when, int reached, int sure, int not) {
        String name = "fact(" + p + ", " + when + ", ";
        due(name + "0)", flow.fact(p, when, 0), reached);
        due(name + "1)", flow.fact(p, when, 1), sure);
        due(name + "2)", flow.fact(p, when, 2), not);
    }

    private static void factsOfExpressions() {
        // 3 ; 4 & 5 = 6 # 7 = 8 0
        AssignFlow flow = Check.of("$a;$b;{}(a=#)&(b=0);a;");
        fact(flow, 0, 1, 1, 0, 1);
        fact(flow, 1, 0, 1, 0, 1);
        fact(flow, 1, 1, 1, 0, 3);
        fact(flow, 4, 0, 1, 0, 3);
        fact(flow, 4, 1, 1, 1, 0);
        fact(flow, 4, 2, 0, 3, 3);
        fact(flow, 4, 3, 1, 1, 0);
        fact(flow, 5, 3, 1, 1, 2);
        fact(flow, 7, 0, 1, 1, 2);
        fact(flow, 7, 2, 0, 3, 3);
        fact(flow, 7, 3, 1, 3, 0);
        flow = Check.of("$a;#?a=1:0;!a;");
        fact(flow, 2, 1, 1, 0, 0);
        fact(flow, 2, 2, 1, 1, 0);
        fact(flow, 2, 3, 1, 0, 1);
        flow = Check.of("$a;!((a=1)|#);");
        // 1 ; 2 ! 3 | 4 = 5 1 6 #
        fact(flow, 2, 2, 0, 1, 1);
        fact(flow, 2, 3, 1, 1, 0);
        fact(flow, 6, 0, 0, 1, 1);
    }

    private static void factsOfLoops() {
        // 1 W 2 # 3 { 4 ; 5 = 6 1 7 B
        AssignFlow flow = Check.of("$a;W(#){a=1;B;}a;");
        fact(flow, 1, 1, 1, 0, 0);
        fact(flow, 2, 0, 1, 0, 1);
        fact(flow, 3, 1, 0, 1, 1);
        fact(flow, 7, 0, 1, 1, 0);
        fact(flow, 7, 1, 0, 1, 1);
        // W(1) ends by its B alone, and that is behind W.
        flow = Check.of("$a;W(1){a=1;B;}");
        fact(flow, 1, 1, 1, 1, 0);
        due("count(4)", flow.count(4), 1);
        due("count(5)", flow.count(5), 1);
        // B with a LABEL goes behind the statement of the LABEL, not behind its body.
        flow = Check.of("$a;2:W(1){a=1;B2;}");
        fact(flow, 1, 1, 1, 1, 0);
        fact(flow, 2, 1, 0, 1, 1);
        // C of D and F go to the e behind the body, of W to its only one.
        flow = Check.of("$a;D{a=1;C;}(a);");
        fact(flow, 1, 1, 1, 1, 0);
        due("errors", flow.count(2), 0);
        // 1 F 2 # 3 = 4 1 5 C
        flow = Check.of("$a;F(#;a=1)C;");
        fact(flow, 1, 1, 1, 0, 0);
        fact(flow, 3, 0, 1, 0, 0);
        fact(flow, 5, 0, 1, 0, 0);
        flow = Check.of("$a;F(0;a=1)C;");
        fact(flow, 1, 1, 1, 0, 1);
        fact(flow, 3, 0, 0, 1, 1);
        flow = Check.of("$a;2:W(#)D{I(#)C2;a=1;}(0);a;");
        fact(flow, 3, 0, 1, 0, 0);
    }

    private static void factsOfCases() {
        // 1 S 2 # 3 ; 4 = 5 1 6 ; 7 = 8 0
        AssignFlow flow = Check.of("$a;S(#){L:a=1;L:a=0;}");
        fact(flow, 1, 1, 1, 0, 0);
        fact(flow, 6, 0, 1, 0, 0);
        flow = Check.of("$a;S(#){L:a=1;O:a=0;}");
        fact(flow, 1, 1, 1, 1, 0);
        // O at the end goes behind all, too.
        flow = Check.of("$a;S(#){L:a=1;O:}");
        fact(flow, 1, 1, 1, 0, 0);
        // An S that is an item has entries of its own.
        flow = Check.of("$a;S(#){O:S(#){L:a=1;}}");
        fact(flow, 1, 1, 1, 0, 0);
        flow = Check.of("$a;S(#){O:#;S(#){O:a=1;}}");
        fact(flow, 1, 1, 1, 1, 0);
        // A VARIABLE of one case is there in the next, and a WALK of the round before may have assigned it.
        // 0 S 1 # 2 $ 3 ; 4 = 5 1 6 ; 7 a
        flow = Check.of("S(#){L:$a;a=1;O:a;}");
        fact(flow, 0, 0, 1, 0, 0);
        fact(flow, 0, 1, 1, 0, 0);
        fact(flow, 6, 0, 1, 0, 0);
        flow = Check.of("W(#)S(#){L:$a;a=1;B;O:a;}");
        // 0 W 1 # 2 S 3 # 4 $ 5 ; 6 = 7 1 8 B 9 ; 10 a
        fact(flow, 10, 0, 1, 0, 0);
        fact(flow, 4, 0, 1, 0, 0);
        fact(flow, 4, 1, 1, 0, 1);
    }

    private static void factsOfTries() {
        // 1 T 2 ; 3 = 4 1 5 ; 6 a
        AssignFlow flow = Check.of("$a;T{a=1;}K{a;}a;");
        fact(flow, 5, 0, 1, 0, 0);
        fact(flow, 1, 1, 1, 0, 0);
        // Nothing raises in an empty { }.
        flow = Check.of("$a;T{}K{a;}");
        fact(flow, 2, 0, 0, 1, 1);
        // The N is gone through by all ways, but only its own way goes on with each: behind T a is assigned.
        // 1 T 2 ; 3 = 4 1 5 { 6 ; 7 a
        flow = Check.of("$a;T{a=1;}N{{}}a;");
        fact(flow, 5, 0, 1, 0, 0);
        fact(flow, 1, 1, 1, 1, 0);
        due("errors", flow.count(2), 0);
        // R goes through N, behind T is nothing.
        flow = Check.of("$a;T{R;}N{a=1;}a;");
        fact(flow, 1, 1, 0, 1, 1);
        fact(flow, 3, 0, 1, 0, 1);
        due("count(4)", flow.count(4), 0);
        // An N that does not come to its end forgets all ways.
        flow = Check.of("W(#){T{R;}N{C;}}");
        due("count(4)", flow.count(4), 1);
        fact(flow, 3, 1, 0, 0, 0);
        flow = Check.of("T{X;}N{R;}");
        due("count(4)", flow.count(4), 0);
        // B through two N, of which each assigns one.
        // 2 W 3 1 4 T 5 T 6 B
        flow = Check.of("$a;$b;W(1)T{T{B;}N{a=1;}}N{b=1;}");
        fact(flow, 2, 1, 1, 3, 0);
        fact(flow, 4, 1, 0, 3, 3);
        // Raising past K, and X into the K of the T around.
        flow = Check.of("$a;T{T{X;}K{X;}N{a=1;}}K{a;}");
        // 1 T 2 T 3 X 4 X 5 ; 6 = 7 1 8 ; 9 a
        fact(flow, 4, 0, 1, 0, 1);
        fact(flow, 8, 0, 1, 0, 0);
        fact(flow, 2, 1, 0, 1, 1);
        // Outside of all T nothing raises but X.
        flow = Check.of("$a;X a=1;#;");
        fact(flow, 1, 1, 0, 1, 1);
        due("count(4)", flow.count(4), 0);
    }

    private static void wrongFacts() {
        AssignFlow flow = Check.of("$a;a=1;");
        for (int out : OUT) {
            due("fact(" + out + ", 0, 0)", flow.fact(out, 0, 0), BAD);
            due("fact(0, " + out + ", 0)", flow.fact(0, out, 0), BAD);
            due("fact(0, 0, " + out + ")", flow.fact(0, 0, out), BAD);
        }
        due("fact(4, 0, 0)", flow.fact(4, 0, 0), BAD);
        due("fact(2, 4, 0)", flow.fact(2, 4, 0), BAD);
        due("fact(2, 0, 3)", flow.fact(2, 0, 3), BAD);
        due("fact(1, 2, 0)", flow.fact(1, 2, 0), BAD);
        due("fact(0, 3, 0)", flow.fact(0, 3, 0), BAD);
        due("fact(2, 2, 0)", flow.fact(2, 2, 0), 1);
    }

    private static void errors(String text, int... placesAndKinds) {
        AssignFlow flow = Check.of(text);
        int many = placesAndKinds.length / 2;
        due(text + " count(2)", flow.count(2), many);
        for (int i = 0; i < many; i++) {
            due(text + " error(" + i + ", 0)", flow.error(i, 0), placesAndKinds[2 * i]);
            due(text + " error(" + i + ", 1)", flow.error(i, 1), placesAndKinds[2 * i + 1]);
        }
        due(text + " error(" + many + ", 0)", flow.error(many, 0), NONE);
    }

    private static void error() {
        errors("$a;a;a=1;a;", 2, 1);
        errors("$a;0&a;a|#;", 7, 1);
        errors("$a;R;a;", 2, 3);
        errors("$a;R;{a;}", 2, 3, 3, 3);
        errors("%a;a=1;a=0;", 5, 2);
        errors("$a;a=1;a=0;");
        errors("%a;a=a=1;", 2, 2);
        errors("%a;a=a;", 3, 1);
        errors("%a;I(#)a=1;E a=0;a;");
        errors("%a;W(#)a=1;", 4, 2);
        errors("%a;W(1){a=1;B;}a;");
        errors("W(#){%a;a=1;}");
        errors("%a;T{a=1;}K{a=0;}", 6, 2);
        errors("%a;T{a=1;X;}N{a=0;}", 7, 2);
        errors("I(0)#;E#;W(1)#;#;", 2, 3, 10, 3);
        errors("%a;R;a=1;a=0;", 2, 3, 5, 3);
        // ERRORS of all kinds in the order of their PLACES.
        errors("%a;a;a=1;a=1;R;a;", 2, 1, 7, 2, 10, 3);
        AssignFlow flow = Check.of("$a;a;");
        due("error(0, 2)", flow.error(0, 2), BAD);
        for (int out : OUT) {
            due("error(" + out + ", 0)", flow.error(out, 0), NONE);
            due("error(0, " + out + ")", flow.error(0, out), BAD);
            due("error(" + out + ", 2)", flow.error(out, 2), BAD);
        }
    }

    private static void variable(AssignFlow flow, int v, int... answers) {
        for (int what = 0; what < answers.length; what++) {
            due("variable(" + v + ", " + what + ")", flow.variable(v, what), answers[what]);
        }
    }

    private static void variable() {
        AssignFlow flow = Check.of("$z;{%a;a=z=z;}$a;a=1;a=a;{$b;}");
        variable(flow, 0, 'z', 0, 0, 1, 1, 1);
        variable(flow, 1, 'a', 1, 2, 1, 0, 1);
        variable(flow, 2, 'a', 0, 7, 0, 1, 2);
        variable(flow, 3, 'b', 0, 15, 1, 0, 0);
        // What no WALK reaches is no second time, but is counted.
        flow = Check.of("$a;a=1;R;a=a;");
        variable(flow, 0, 'a', 0, 0, 1, 1, 2);
        flow = Check.of("%a;W(#)a=1;");
        variable(flow, 0, 'a', 1, 0, 0, 0, 1);
        for (int out : OUT) {
            due("variable(" + out + ", 0)", flow.variable(out, 0), BAD);
            due("variable(0, " + out + ")", flow.variable(0, out), BAD);
        }
        due("variable(1, 0)", flow.variable(1, 0), BAD);
        due("variable(0, 6)", flow.variable(0, 6), BAD);
    }

    private static void count() {
        AssignFlow flow = Check.of("$a;$b;$c;{$d;d=1;}c=1;a;a=b;");
        Check.collect(flow, "12345");
        due("count(0)", flow.count(0), 16);
        due("count(1)", flow.count(1), 4);
        due("count(2)", flow.count(2), 2);
        due("count(3)", flow.count(3), 5);
        due("count(4)", flow.count(4), 1);
        due("count(5), as bits", flow.count(5), 5);
        // At an end that is not reached all are assigned that are there.
        flow = Check.of("$a;$b;{$c;}W(1)#;");
        due("count(4)", flow.count(4), 0);
        due("count(5)", flow.count(5), 3);
        flow = Check.of("$a;I(#)R a=1;");
        due("count(4)", flow.count(4), 1);
        due("count(5)", flow.count(5), 0);
        due("count(6)", flow.count(6), BAD);
        for (int out : OUT) {
            due("count(" + out + ")", flow.count(out), BAD);
        }
    }

    public static void main(String[] args) {
        newObject();
        collect();
        forget();
        read();
        fault();
        place();
        factsOfExpressions();
        factsOfLoops();
        factsOfCases();
        factsOfTries();
        wrongFacts();
        error();
        variable();
        count();
        CHECK.end();
    }
}
