/** The sentences of promises 6 to 10 that name a boundary case, each with a test of its own. */
public final class AnswersBoundaryTest extends TextCheck {
    private static final int[] FAR = {
        Integer.MIN_VALUE, Integer.MIN_VALUE + 1, -65535, -255, -1, 256, 257, 65537, 1 << 24, Integer.MAX_VALUE};

    // A text, and the PLACE in it that has the sort which stands first.
    private static final Object[][] STATEMENTS = {
        {'$', "$a;", 0}, {'%', "%a;", 0}, {'{', "{}", 0}, {':', "2:#;", 0}, {'I', "I(#)#;", 0}, {'W', "W(#)#;", 0},
        {'D', "D#;(#);", 0}, {'F', "F(#;#)#;", 0}, {'S', "S(#){}", 0}, {'T', "T{}K{}", 0}, {'T', "T{}N{}", 0},
        {'B', "W(#)B;", 2}, {'B', "2:B2;", 1}, {'C', "W(#)C;", 2}, {'R', "R;", 0}, {'X', "X;", 0}, {';', "#;", 0}};
    private static final Object[][] PARTS_OF_E = {
        {'a', "$a;a;", 2}, {'z', "%z;z;", 2}, {'0', "0;", 1}, {'1', "1;", 1}, {'#', "#;", 1}, {'!', "!#;", 1},
        {'&', "#&#;", 1}, {'|', "#|#;", 1}, {'?', "#?#:#;", 1}, {'=', "$a;a=1;", 2}};

    private static void numbers() {
        CHECK.sentence("Promise 6 (PLACES)", "numbered from 0 on by their first signs; of those that begin with one "
            + "sign the outer one first.");
        sorts("#;", ";#");
        firstSigns("#;", 0, 0);
        firstSigns("  #\n;", 2, 2);
        sorts("$a;a|#&0?1:0;", "$;?|a&#010");
        firstSigns("$a;a|#&0?1:0;", 0, 3, 3, 3, 3, 5, 5, 7, 9, 11);
        sorts("$a;a=a=1;", "$;==1");
        firstSigns("$a;a=a=1;", 0, 3, 3, 5, 7);
        String full = "#" + "|#".repeat(119) + ";";
        AssignFlow flow = Check.of(full);
        due("PLACES of 240 signs", flow.count(0), 240);
        for (int p = 0; p < 240; p++) {
            due("place(" + p + ", 1) of 240 signs", flow.place(p, 1), p <= 120 ? 0 : 2 * (p - 120));
        }
        flow = Check.of("0;".repeat(120));
        for (int p = 0; p < 240; p++) {
            due("place(" + p + ", 1) of 120 stmts", flow.place(p, 1), p - p % 2);
        }

        CHECK.sentence("Promise 6 (PLACES)", "& and | with both sides, from the left");
        arounds("#&#&#;", NONE, 0, 1, 2, 2, 1);
        arounds("#|#|#;", NONE, 0, 1, 2, 2, 1);
        arounds("#|#&#;", NONE, 0, 1, 1, 3, 3);
        arounds("#&(#&#);", NONE, 0, 1, 1, 3, 3);

        CHECK.sentence("Promise 6 (PLACES)", "brackets are none, and no signs of theirs");
        sorts("((#));", ";#");
        firstSigns("((#));", 0, 2);
        firstSigns("((#)|(0))&#;", 0, 2, 2, 2, 6, 10);
        sorts("((#)|(0))&#;", ";&|#0#");
        firstSigns("((#)?(#):(#));", 0, 2, 2, 6, 10);
        firstSigns("!(#);", 0, 0, 2);
        firstSigns("$a;a=(1);", 0, 3, 3, 6);
    }

    private static void sortsOfPlaces() {
        CHECK.sentence("Promise 6", "what = 0 its sort (a sign: $ % { : I W D F S T B C R X ; of stmts, a NAME, "
            + "0 1 # ! & | ? = of e)");
        for (Object[][] rows : new Object[][][] {STATEMENTS, PARTS_OF_E}) {
            for (Object[] row : rows) {
                due("<" + row[1] + ">", Check.of((String) row[1]).place((int) row[2], 0), (char) row[0]);
            }
        }
        for (char name = 'a'; name <= 'z'; name++) {
            due("NAME", Check.of("$" + name + ";" + name + ";").place(2, 0), name);
        }
        // The { } of S, T, K and N, L : and O : , E and brackets are no PLACES.
        sorts("S(#){L:O:L:}", "S#");
        sorts("T{}K{}N{}", "T");
        sorts("I(#){}E{}", "I#{{");
    }

    private static void aroundPlaces() {
        CHECK.sentence("Promise 6", "2 the PLACE right around it (NONE)");
        arounds("#;#;", NONE, 0, NONE, 2);
        arounds("$a;{}2:#;T{}N{}R;", NONE, NONE, NONE, 2, 3, NONE, NONE);
        arounds("T{#;}K{#;}N{#;}#;", NONE, 0, 1, 0, 3, 0, 5, NONE, 7);
        arounds("S(#){L:#;O:{}}#;", NONE, 0, 0, 2, 0, NONE, 5);
        arounds("F(#;#)#;", NONE, 0, 0, 0, 3);
        arounds("D#;(#);", NONE, 0, 1, 0);
        arounds("#?#:#;", NONE, 0, 1, 1, 1);
        // As deep as can be: each one is right within the one ahead of it.
        String deep = "{".repeat(19) + "!".repeat(29) + "#;" + "}".repeat(19);
        AssignFlow flow = Check.of(deep);
        due("PLACES", flow.count(0), 50);
        for (int p = 0; p < 50; p++) {
            due("place(" + p + ", 2)", flow.place(p, 2), p == 0 ? NONE : p - 1);
        }

        CHECK.sentence("Promise 4 (the unit)", "(An E belongs to the I that is nearest.)");
        arounds("I(#)I(#){}E{}", NONE, 0, 0, 2, 2, 2);
        arounds("I(#)I(#){}E{}E{}", NONE, 0, 0, 2, 2, 2, 0);
        arounds("I(#){I(#){}}E{}", NONE, 0, 0, 2, 3, 3, 0);
        arounds("I(#)W(#)2:I(#){}E{}", NONE, 0, 0, 2, 2, 4, 5, 5, 5);
    }

    private static void variablesAt() {
        CHECK.sentence("Promise 6", "3 the VARIABLE of $, %, a NAME, = (NONE)");
        for (Object[][] rows : new Object[][][] {STATEMENTS, PARTS_OF_E}) {
            for (Object[] row : rows) {
                boolean has = "$%az=".indexOf((char) row[0]) >= 0;
                due("<" + row[1] + ">", Check.of((String) row[1]).place((int) row[2], 3), has ? 0 : NONE);
            }
        }
        variablesOfPlaces("$a;%b;a=b;", 0, 1, NONE, 0, 1);
        variablesOfPlaces("$a;a&a;", 0, NONE, NONE, 0, 0);
        variablesOfPlaces("$a;a|a;", 0, NONE, NONE, 0, 0);
        variablesOfPlaces("$a;a?!a:a;", 0, NONE, NONE, 0, NONE, 0, 0);
        AssignFlow flow = Check.of(TWELVE + "l=k=a;");
        for (int v = 0; v < 12; v++) {
            due("VARIABLE " + v, flow.place(v, 3), v);
        }
        due("l =", flow.place(13, 3), 11);
        due("k =", flow.place(14, 3), 10);
        due("a", flow.place(15, 3), 0);

        CHECK.sentence("Promise 6 (VARIABLES)", "VARIABLES ($) and FINAL ones (%) are numbered as they are given; one "
            + "is there from behind its stmt to the end of the { } around (of S: of all its items), or of the unit.");
        variablesOfPlaces("{$a;a;}{%a;a;}$a;a;", NONE, 0, NONE, 0, NONE, 1, NONE, 1, 2, NONE, 2);
        variablesOfPlaces("T{$a;a;}K{$a;a;}N{$a;a;}", NONE, 0, NONE, 0, 1, NONE, 1, 2, NONE, 2);
        variablesOfPlaces("S(#){L:$a;L:a;O:{a;}}$a;a;", NONE, NONE, 0, NONE, 0, NONE, NONE, 0, 1, NONE, 1);
        fact("$a;{$b;}#;", 0, BEFORE, 1, 0, 0);
        fact("$a;{$b;}#;", 2, BEFORE, 1, 0, 1);
        fact("$a;{$b;{}}#;", 3, BEFORE, 1, 0, 3);
        fact("$a;{$b;}#;", 3, BEFORE, 1, 0, 1);
        fact("T{$a;}K{#;}", 2, BEFORE, 1, 0, 0);
        fact("T{}K{$a;}N{#;}", 2, BEFORE, 1, 0, 0);
        fact("S(#){L:$a;L:#;}#;", 3, BEFORE, 1, 0, 1);
        fact("S(#){L:$a;L:#;}#;", 5, BEFORE, 1, 0, 0);
        due("there at the end of the unit", Check.of("$a;{$b;}R;").count(5), 1);
    }

    private static void badPlaces() {
        CHECK.sentence("Promise 6", "3 the VARIABLE of $, %, a NAME, = (NONE). BAD.");
        for (String text : new String[] {"", "}", "#;", "0;".repeat(120)}) {
            AssignFlow flow = Check.of(text);
            int many = flow.count(0);
            for (int what = 0; what < 4; what++) {
                due("p too large", flow.place(many, what), BAD);
                due("p too large", flow.place(many + 1, what), BAD);
                for (int far : FAR) {
                    due("place(" + far + ", " + what + ")", flow.place(far, what), BAD);
                }
            }
            if (many > 0) {
                CHECK.isTrue("the last one", flow.place(many - 1, 0) > 0);
            }
            due("what too large", flow.place(0, 4), BAD);
            for (int far : FAR) {
                due("place(0, " + far + ")", flow.place(0, far), BAD);
            }
        }
    }

    private static void badFacts() {
        CHECK.sentence("Promise 7", "BAD: also WHEN 2, 3 of a stmt.");
        for (Object[] row : STATEMENTS) {
            AssignFlow flow = Check.of((String) row[1]);
            for (int what = 0; what < 3; what++) {
                due(row[1] + " when TRUE", flow.fact((int) row[2], WHEN_TRUE, what), BAD);
                due(row[1] + " when FALSE", flow.fact((int) row[2], WHEN_FALSE, what), BAD);
                CHECK.isTrue(row[1] + " BEFORE", flow.fact((int) row[2], BEFORE, what) >= 0);
                CHECK.isTrue(row[1] + " AFTER", flow.fact((int) row[2], AFTER, what) >= 0);
            }
        }
        for (Object[] row : PARTS_OF_E) {
            AssignFlow flow = Check.of((String) row[1]);
            for (int k = 0; k < 12; k++) {
                CHECK.isTrue(row[1] + " of e", flow.fact((int) row[2], k / 3, k % 3) >= 0);
            }
        }

        CHECK.sentence("Promise 7", "BAD: also");
        for (String text : new String[] {"", "}", "#;", "0;".repeat(120)}) {
            AssignFlow flow = Check.of(text);
            int many = flow.count(0);
            due("p too large", flow.fact(many, 0, 0), BAD);
            due("WHEN too large", flow.fact(many - 1, 4, 0), BAD);
            due("what too large", flow.fact(many - 1, 0, 3), BAD);
            due("WHEN too small", flow.fact(many - 1, -1, 0), BAD);
            due("what too small", flow.fact(many - 1, 0, -1), BAD);
            for (int far : FAR) {
                due("fact(" + far + ", 1, 1)", flow.fact(far, 1, 1), BAD);
                due("fact(1, " + far + ", 1)", flow.fact(1, far, 1), BAD);
                due("fact(1, 1, " + far + ")", flow.fact(1, 1, far), BAD);
            }
        }
    }

    private static void bitsOfFacts() {
        CHECK.sentence("Promise 7", "1 what is ASSIGNED for sure, 2 NOT ASSIGNED for sure (bit v for VARIABLE v).");
        for (int v = 0; v < 12; v++) {
            char name = (char) ('a' + v);
            fact(TWELVE + name + "=1;", 12, BEFORE, 1, 0, ALL_TWELVE);
            fact(TWELVE + name + "=1;", 12, AFTER, 1, 1 << v, ALL_TWELVE & ~(1 << v));
            fact(TWELVE + "I(#)" + name + "=1;", 12, AFTER, 1, 0, ALL_TWELVE & ~(1 << v));
            fact(TWELVE + "R;" + name + ";", 13, BEFORE, 0, ALL_TWELVE, ALL_TWELVE);
        }
        fact(TWELVE + "a=b=c=d=e=f=g=h=i=j=k=l=1;", 12, AFTER, 1, ALL_TWELVE, 0);
        // Each N assigns one more, so that the B comes behind W with all of them.
        StringBuilder ends = new StringBuilder();
        for (char name = 'a'; name <= 'l'; name++) {
            ends.append("}N{").append(name).append("=1;}");
        }
        fact(TWELVE + "W(1)" + "T{".repeat(12) + "B;" + ends, 12, AFTER, 1, ALL_TWELVE, 0);
        fact(TWELVE + "W(1)" + "T{".repeat(12) + "B;" + ends, 14, AFTER, 0, ALL_TWELVE, ALL_TWELVE);
        // As many tries around as can be: what the innermost raises comes to the outermost K.
        fact("$a;T{" + "T{".repeat(17) + "a=1;X;" + "}N{}".repeat(17) + "}K{#;}", 23, BEFORE, 1, 0, 0);
        fact("$a;W(1){" + "T{".repeat(17) + "B;" + "}N{}".repeat(16) + "}N{a=1;}}", 1, AFTER, 1, 1, 0);
    }

    private static void ends() {
        CHECK.sentence("Promise 7 (FACTS)", "2 when TRUE, 3 when FALSE (of e alone). It is REACHED, if there is such a "
            + "WALK.");
        String[][] rows = {{"0;", "01"}, {"1;", "10"}, {"#;", "11"}, {"!0;", "10"}, {"!1;", "01"}, {"0&#;", "01"},
            {"1&1;", "10"}, {"1&0;", "01"}, {"#&0;", "01"}, {"#&1;", "11"}, {"1|#;", "10"}, {"0|0;", "01"},
            {"#|1;", "10"}, {"#|0;", "11"}, {"1?0:1;", "01"}, {"0?0:1;", "10"}, {"#?1:1;", "10"}, {"#?0:1;", "11"}};
        for (String[] row : rows) {
            isReached(row[0], 1, BEFORE, 1);
            isReached(row[0], 1, AFTER, 1);
            isReached(row[0], 1, WHEN_TRUE, row[1].charAt(0) - '0');
            isReached(row[0], 1, WHEN_FALSE, row[1].charAt(1) - '0');
        }
        fact("$a;a=0;", 2, WHEN_TRUE, 0, 1, 1);
        fact("$a;a=0;", 2, WHEN_FALSE, 1, 1, 0);
        fact("$a;a=#;", 3, WHEN_TRUE, 1, 0, 1);
        isReached("0&#;", 3, BEFORE, 0);
        isReached("1|#;", 3, BEFORE, 0);
        isReached("1?#:#;", 3, BEFORE, 1);
        isReached("1?#:#;", 4, BEFORE, 0);
        isReached("R;#;", 2, BEFORE, 0);
        for (int when = BEFORE; when <= WHEN_FALSE; when++) {
            isReached("R;#;", 2, when, 0);
        }

        CHECK.sentence("Promise 7 (FACTS)", "A VARIABLE that is there (BEFORE; AFTER also that of $, % itself) is "
            + "ASSIGNED for sure, if it is on all such WALKS, NOT ASSIGNED for sure, if it is on none; both, if it is "
            + "not REACHED.");
        fact("$a;", 0, BEFORE, 1, 0, 0);
        fact("$a;", 0, AFTER, 1, 0, 1);
        fact("%a;", 0, AFTER, 1, 0, 1);
        fact("R;$a;", 1, BEFORE, 0, 0, 0);
        fact("R;$a;", 1, AFTER, 0, 1, 1);
        fact("$a;{%b;b=1;}", 1, AFTER, 1, 0, 1);
        fact("$a;R;{%b;}", 2, AFTER, 0, 1, 1);
        fact("$a;R;{%b;#;}", 4, BEFORE, 0, 3, 3);
        fact("S(#){L:$a;a=1;}", 0, AFTER, 1, 0, 0);
        fact("W(#){$a;a=1;}", 3, BEFORE, 1, 0, 0);
        fact("W(#){$a;a=1;}", 3, AFTER, 1, 0, 1);
        fact("$a;I(#)a=1;", 1, AFTER, 1, 0, 0);
        fact("$a;I(#)a=1;E a=0;", 1, AFTER, 1, 1, 0);
        fact("$a;I(#)#;", 1, AFTER, 1, 0, 1);
    }

    private static void afterJumps() {
        CHECK.sentence("Promise 7 (FACTS)", "1 AFTER (up to where it has ended and goes on behind it: a stmt; an e "
            + "both ways; not by jumps, of T not on other ways than at the end)");
        isReached("R;", 0, AFTER, 0);
        isReached("X;", 0, AFTER, 0);
        isReached("R#;", 0, AFTER, 0);
        isReached("R#;", 1, AFTER, 1);
        isReached("{R;}", 0, AFTER, 0);
        isReached("W(1)B;", 2, AFTER, 0);
        isReached("W(1)B;", 0, AFTER, 1);
        isReached("W(1){B;}", 2, AFTER, 0);
        isReached("W(1)C;", 0, AFTER, 0);
        isReached("2:W(1)B2;", 1, AFTER, 0);
        isReached("2:W(1)B2;", 0, AFTER, 1);
        isReached("2:{B2;}", 1, AFTER, 0);
        isReached("2:{B2;}", 0, AFTER, 1);
        isReached("D B;(#);", 2, BEFORE, 0);
        isReached("D C;(#);", 2, BEFORE, 1);
        isReached("F(1;#)B;", 0, AFTER, 1);
        isReached("F(1;#)B;", 2, BEFORE, 0);
        isReached("F(1;#)C;", 2, BEFORE, 1);
        isReached("S(#){O:B;}", 2, AFTER, 0);
        isReached("S(#){O:B;}", 0, AFTER, 1);
        isReached("S(#){O:R;}", 0, AFTER, 0);
        isReached("T{R;}N{}", 0, AFTER, 0);
        isReached("T{X;}N{}", 0, AFTER, 0);
        isReached("T{X;}K{}", 0, AFTER, 1);
        isReached("T{X;}K{X;}N{}", 0, AFTER, 0);
        isReached("T{R;}K{}N{}", 0, AFTER, 1);
        isReached("W(1)T{B;}N{}", 2, AFTER, 0);
        isReached("W(1)T{B;}N{}", 0, AFTER, 1);
        fact("$a;T{a=1;}N{}", 1, AFTER, 1, 1, 0);
    }

    private static void bothEnds() {
        CHECK.sentence("Promise 7 (WALKS)", "stmts of e, R, X go on from both ends.");
        isReached("0;", 0, AFTER, 1);
        isReached("1;", 0, AFTER, 1);
        fact("$a;#&(a=1);", 1, AFTER, 1, 0, 0);
        fact("$a;#?a=1:(a=0);", 1, AFTER, 1, 1, 0);
        isReached("T{X 0;}K{#;}", 3, BEFORE, 1);
        isReached("T{R 1;}N{#;}", 3, BEFORE, 1);
        fact("$a;T{R#&(a=1);}N{#;}", 7, BEFORE, 1, 0, 0);

        CHECK.sentence("Promise 7 (WALKS)", "$, % : the VARIABLE is not ASSIGNED.");
        fact("W(#){%a;a=1;}", 3, AFTER, 1, 0, 1);
        fact("D{$a;a=1;}(#);", 2, AFTER, 1, 0, 1);
        // Items that are entered behind the $ keep what an earlier round has done.
        fact("W(#)S(#){L:$a;a=1;O:#;}", 8, BEFORE, 1, 0, 0);
        fact("S(#){L:$a;O:#;}", 3, BEFORE, 1, 0, 1);
    }

    private static void roundsOfWalks() {
        CHECK.sentence("Promise 7 (WALKS)", "I: to its body if TRUE, else to that of E, or on.");
        isReached("I(0){}", 2, BEFORE, 0);
        isReached("I(0){}", 0, AFTER, 1);
        isReached("I(1)R;", 0, AFTER, 0);
        isReached("I(1){}E{}", 3, BEFORE, 0);
        isReached("I(0){}E R;", 0, AFTER, 0);
        isReached("{}", 0, AFTER, 1);
        isReached("{}{}", 1, BEFORE, 1);

        CHECK.sentence("Promise 7 (WALKS)", "W: e; if TRUE its body, then e again.");
        isReached("W(0){}", 2, BEFORE, 0);
        isReached("W(0){}", 0, AFTER, 1);
        isReached("W(1){}", 2, AFTER, 1);
        isReached("W(1){}", 0, AFTER, 0);
        fact("$a;W(#)a=1;", 2, BEFORE, 1, 0, 0);
        fact("$a;W(a=0){}", 1, AFTER, 1, 1, 0);
        fact("$a;W(#){a=1;R;}", 2, BEFORE, 1, 0, 1);
        fact("$a;W(#){a=1;C;}", 2, BEFORE, 1, 0, 0);

        CHECK.sentence("Promise 7 (WALKS)", "D: its body, e, if TRUE again.");
        isReached("D{}(0);", 1, BEFORE, 1);
        isReached("D{}(0);", 0, AFTER, 1);
        isReached("D{}(1);", 0, AFTER, 0);
        isReached("D R;(#);", 2, BEFORE, 0);
        fact("$a;D a=1;(#);", 1, AFTER, 1, 1, 0);
        fact("$a;D{}(a=0);", 2, BEFORE, 1, 0, 1);
        fact("$a;D{}(a=1);", 2, BEFORE, 1, 0, 0);
        fact("$a;D{}(#&(a=1));", 2, BEFORE, 1, 0, 0);
        fact("$a;D{}(#|(a=0));", 2, BEFORE, 1, 0, 1);

        CHECK.sentence("Promise 7 (WALKS)", "F: e; if TRUE its body, then the second e, then the first one again.");
        isReached("F(0;#){}", 3, BEFORE, 0);
        isReached("F(0;#){}", 2, BEFORE, 0);
        isReached("F(0;#){}", 0, AFTER, 1);
        isReached("F(1;0){}", 2, AFTER, 1);
        isReached("F(1;0){}", 0, AFTER, 0);
        isReached("F(1;#)R;", 2, BEFORE, 0);
        fact("$a;F(#;a=0){}", 2, BEFORE, 1, 0, 0);
        fact("$a;F(#;#)a=1;", 3, BEFORE, 1, 1, 0);
        fact("$a;F(a=#;#){}", 1, AFTER, 1, 1, 0);
        fact("$a;F(#;#&(a=1)){}", 2, BEFORE, 1, 0, 0);

        CHECK.sentence("Promise 7 (WALKS)", "B goes behind the nearest W, D, F, S around, or that with the LABEL; C to "
            + "where the nearest W, D, F (or that with the LABEL) begins its next round: to e; of F to the second e.");
        isReached("W(1)W(1)B;", 2, AFTER, 1);
        isReached("W(1)W(1)B;", 0, AFTER, 0);
        isReached("W(1)S(#){O:B;}", 2, AFTER, 1);
        isReached("W(1)S(#){O:B;}", 0, AFTER, 0);
        isReached("W(1)S(#){O:C;}", 2, AFTER, 0);
        isReached("2:W(1)W(1)B2;", 0, AFTER, 1);
        isReached("2:W(1)W(1)B2;", 3, AFTER, 0);
        isReached("2:D W(1)C2;(#);", 5, BEFORE, 1);
        isReached("2:D W(1)C;(#);", 5, BEFORE, 0);
        fact("$a;D{I(#)C;a=1;}(#);", 8, BEFORE, 1, 0, 0);
        fact("$a;F(#;#){I(#)C;a=1;}", 3, BEFORE, 1, 0, 0);
        fact("$a;2:F(#;#)F(#;a=1)C2;", 4, BEFORE, 1, 0, 1);
        isReached("W(1)T{B;}K{}", 0, AFTER, 1);
        isReached("W(1)T{B;}K{R;}", 2, AFTER, 0);
        fact("$a;D T{C;}N{a=1;}(#);", 7, BEFORE, 1, 1, 0);
        fact("$a;F(#;#)T{C;}N{a=1;}", 3, BEFORE, 1, 1, 0);
        fact("$a;W(#)T{C;}K{}N{a=1;}", 2, BEFORE, 1, 0, 0);
    }

    private static void casesOfWalks() {
        CHECK.sentence("Promise 7 (WALKS)", "S: e, then behind any L, O, or, without an O, behind all; items go on one "
            + "to the other.");
        isReached("S(#){}", 0, AFTER, 1);
        isReached("S(#){L:}", 0, AFTER, 1);
        isReached("S(#){O:}", 0, AFTER, 1);
        isReached("S(#){L:R;}", 0, AFTER, 1);
        isReached("S(#){O:R;}", 0, AFTER, 0);
        isReached("S(#){O:L:R;}", 0, AFTER, 0);
        isReached("S(#){O:R;L:}", 0, AFTER, 1);
        isReached("S(#){L:R;O:}", 0, AFTER, 1);
        isReached("S(#){O:#;}", 0, AFTER, 1);
        isReached("S(#){L:R;#;L:#;}", 3, BEFORE, 0);
        isReached("S(#){L:R;#;L:#;}", 5, BEFORE, 1);
        fact("$a;S(#){L:a=1;L:#;O:R;}", 6, BEFORE, 1, 0, 0);
        fact("$a;S(#){L:a=1;#;O:R;}", 6, BEFORE, 1, 1, 0);
    }

    private static void triesOfWalks() {
        CHECK.sentence("Promise 7 (WALKS)", "a WALK may also raise: before each PLACE there begins, and right behind "
            + "each NAME = e there.");
        isReached("T{}K{#;}", 1, BEFORE, 0);
        isReached("T{{}}K{#;}", 2, BEFORE, 1);
        isReached("T{R;}K{#;}", 2, BEFORE, 1);
        isReached("#;T{}K{#;}", 3, BEFORE, 0);
        fact("$a;T{a=1;}K{#;}", 5, BEFORE, 1, 0, 0);
        fact("$a;a=1;T{#;}K{#;}", 7, BEFORE, 1, 1, 0);
        fact("$a;T{R a=1;}K{#;}", 5, BEFORE, 1, 0, 0);
        // Raising may come ahead of a B as well, but not of what is behind it.
        fact("$a;W(#)T{B;a=1;}K{#;}", 8, BEFORE, 1, 0, 1);
        // In K: past it, through N. In N: past it.
        fact("$a;T{T{#;}K{a=1;}N{}}K{#;}", 8, BEFORE, 1, 0, 0);
        fact("$a;T{T{}N{a=1;}}K{#;}", 6, BEFORE, 1, 0, 0);
        fact("$a;T{T{}K{a=1;}}K{#;}", 6, BEFORE, 1, 0, 1);

        // So do the PLACES that are further within.
        fact("$a;T{T{X;}K{{a=1;}}}K{#;}", 8, BEFORE, 1, 0, 0);
        fact("$a;T{T{X;}K{{a=1;}}}K{#;}", 4, BEFORE, 1, 0, 1);
        fact("$a;T{}N{{a=1;}}", 2, BEFORE, 1, 0, 1);
        fact("$a;T{T{}N{{a=1;}}}K{#;}", 7, BEFORE, 1, 0, 0);
        fact("$a;T{{2:{a=1;}}}K{#;}", 8, BEFORE, 1, 0, 0);
        fact("$a;T{T{a=1;}K{}N{R;}}K{#;}", 7, BEFORE, 1, 0, 0);

        CHECK.sentence("Promise 7 (WALKS)", "What raises in the first { } of a T with K goes to that { }.");
        isReached("T{T{X;}K{}R;}K{#;}", 4, BEFORE, 1);
        fact("$a;T{T{a=1;}K{}}K{#;}", 6, BEFORE, 1, 0, 1);
        fact("$a;T{T{a=1;}N{}}K{#;}", 6, BEFORE, 1, 0, 0);

        CHECK.sentence("Promise 7 (WALKS)", "goes through N first, and then on its way, if N comes to its end; else "
            + "that way is forgotten.");
        isReached("T{}N{}", 0, AFTER, 1);
        isReached("T{}N{R;}", 0, AFTER, 0);
        isReached("T{}N{X;}", 0, AFTER, 0);
        isReached("T{}N{W(1)#;}", 0, AFTER, 0);
        isReached("T{R;{}}K{}N{}", 2, BEFORE, 0);
        isReached("2:T{R;}N{B2;}", 1, AFTER, 0);
        isReached("2:T{R;}N{B2;}", 0, AFTER, 1);
        isReached("W(1)T{B;}N{C;}", 0, AFTER, 0);
        isReached("W(1)T{C;}N{B;}", 0, AFTER, 1);
        isReached("T{T{X;}N{R;}}K{#;}", 3, BEFORE, 1);
        fact("$a;W(#)T{a=1;B;}N{}", 1, AFTER, 1, 0, 0);
        fact("$a;W(1)T{a=1;B;}N{}", 1, AFTER, 1, 1, 0);
        fact("$a;W(1)T{B;}N{a=1;}", 1, AFTER, 1, 1, 0);
        fact("$a;T{a=1;}N{#;}#;", 5, BEFORE, 1, 0, 0);
        fact("$a;T{a=1;}N{#;}#;", 7, BEFORE, 1, 1, 0);
        // A jump that stays within a { } does not leave it.
        fact("$a;T{2:{B2;}#;}N{a=1;}", 5, BEFORE, 1, 0, 1);
        fact("$a;T{D C;(#);}K{}N{a=1;}", 4, BEFORE, 1, 0, 1);
        isReached("T{}N{2:{B2;}}", 0, AFTER, 1);
        isReached("T{}N{D C;(#);}", 0, AFTER, 1);
        isReached("T{T{2:B2;}N{R;}}N{}", 0, AFTER, 0);
        // An N within an N.
        fact("$a;T{}N{T{}N{}}", 1, AFTER, 1, 0, 1);
        fact("$a;a=1;T{}N{T{}N{}}", 4, AFTER, 1, 1, 0);
        fact("$a;T{}N{T{a=1;}N{}}", 1, AFTER, 1, 1, 0);
        fact("$a;W(1)T{B;}N{T{}N{a=1;}}", 1, AFTER, 1, 1, 0);
        due("raised in K, B in N", Check.of("W(1)T{X;}K{X;}N{B;}").count(4), 1);

        CHECK.sentence("Promise 7 (WALKS)", "What raises and finds nothing leaves the unit.");
        due("X;", Check.of("X;").count(4), 0);
        due("X in T with N alone", Check.of("T{X;}N{}").count(4), 0);
        due("X in K", Check.of("T{}K{X;}").count(4), 1);
        due("X in T, X in K", Check.of("T{X;}K{X;}").count(4), 0);
        due("X in N", Check.of("T{}N{X;}").count(4), 0);
        isReached("X;#;", 1, BEFORE, 0);
        // It begins no second round of the first PLACE.
        fact("S(#){L:$a;a=1;X;O:#;}", 7, BEFORE, 1, 0, 1);
        fact("S(#){L:$a;a=1;R;O:#;}", 7, BEFORE, 1, 0, 1);
    }

    private static void kindsOfErrors() {
        CHECK.sentence("Promise 8 (ERRORS)", "1 a NAME that is used, whose PLACE is REACHED, and which is not ASSIGNED "
            + "for sure there.");
        errors("$a;a;", 2, 1);
        errors("$a;a=1;a;");
        errors("$a;a=a;", 3, 1);
        errors("$a;I(#)a=1;a;", 7, 1);
        errors("$a;0&a;");
        errors("$a;R;a;", 2, 3);
        errors("$a;a=1;{$b;b;}a;", 7, 1);

        CHECK.sentence("Promise 8 (ERRORS)", "2 NAME = e of a FINAL one, to which (behind e, ahead of its being "
            + "ASSIGNED) some WALK comes on which it is ASSIGNED already.");
        errors("%a;a=1;");
        errors("%a;a=1;a=1;", 5, 2);
        errors("$a;a=1;a=1;");
        errors("%a;a=a=1;", 2, 2);
        errors("%a;a=(a=#)|(a=0);", 2, 2, 6, 2);
        errors("%a;a=(a=1)|(a=0);", 2, 2);
        errors("%a;a=0&(a=1);");
        errors("%a;I(#)a=1;a=0;", 7, 2);
        errors("%a;a=1;0&(a=1);");
        errors("%a;W(#)a=1;", 4, 2);
        errors("W(#){%a;a=1;}");
        errors("%a;W(1){a=1;B;}");
        errors("%a;a=1;R;a=1;", 5, 3);

        CHECK.sentence("Promise 8 (ERRORS)", "3 a stmt that is not REACHED.");
        errors("R;");
        errors("R;{}", 1, 3);
        errors("R;$a;{}2:#;T{}N{}", 1, 3, 2, 3, 3, 3, 4, 3, 6, 3);
        errors("I(0){}E{}", 2, 3);
        errors("I(1){}E{}", 3, 3);
        errors("0&#;");
        errors("T{}K{{}}", 1, 3);

        CHECK.sentence("Promise 8 (ERRORS)", "They are in order of their PLACES.");
        errors("%a;{%b;b=1;b;b=a;}R;a;", 9, 2, 10, 1, 12, 3);
        AssignFlow flow = Check.of("R;" + "0;".repeat(119));
        due("count(2)", flow.count(2), 119);
        for (int i = 0; i < 119; i++) {
            due("error(" + i + ", 0) of 119", flow.error(i, 0), 2 * i + 1);
            due("error(" + i + ", 1) of 119", flow.error(i, 1), 3);
        }
        due("error(119, 0) of 119", flow.error(119, 0), NONE);
    }

    private static void refusedErrors() {
        CHECK.sentence("Promise 8", "NONE: there is none such; BAD: what.");
        String[] texts = {"", "}", "#;", "$a;a;", "R;" + "0;".repeat(119)};
        int[] many = {0, 0, 0, 1, 119};
        for (int k = 0; k < texts.length; k++) {
            AssignFlow flow = Check.of(texts[k]);
            for (int what = 0; what < 2; what++) {
                due("none such", flow.error(many[k], what), NONE);
                due("none such", flow.error(many[k] + 1, what), NONE);
                for (int far : FAR) {
                    due("error(" + far + ", " + what + ")", flow.error(far, what), NONE);
                }
                if (many[k] > 0) {
                    CHECK.isTrue("the first", flow.error(0, what) > 0);
                    CHECK.isTrue("the last", flow.error(many[k] - 1, what) > 0);
                }
            }
            due("what too large", flow.error(0, 2), BAD);
            due("what too large, none such", flow.error(many[k], 2), BAD);
            for (int far : FAR) {
                due("error(0, " + far + ")", flow.error(0, far), BAD);
                due("error(" + far + ", " + far + ")", flow.error(far, far), BAD);
            }
        }
    }

    private static void promise9() {
        CHECK.sentence("Promise 9", "what = 0 its NAME, 1 whether it is FINAL (1 or 0), 2 the PLACE that gives it");
        for (int v = 0; v < 12; v++) {
            variable(TWELVE, v, 'a' + v, v % 2, v);
        }
        variable("{$z;}{%z;}", 0, 'z', 0, 1);
        variable("{$z;}{%z;}", 1, 'z', 1, 3);
        variable("0;".repeat(118) + "$a; ", 0, 'a', 0, 236);

        CHECK.sentence("Promise 9", "3 whether it could be FINAL: no ERROR 2 would be of it (1 or 0)");
        String[] could = {"$a;", "%a;", "$a;a;", "$a;a=1;", "$a;I(#)a=1;E a=0;", "W(#){$a;a=1;}", "$a;a=1;R;a=1;"};
        for (String text : could) {
            due("<" + text + ">", Check.of(text).variable(0, 3), 1);
        }
        String[] couldNot = {"$a;a=1;a=1;", "%a;a=1;a=1;", "$a;a=a=1;", "$a;W(#)a=1;", "$a;T{a=1;}K{a=1;}"};
        for (String text : couldNot) {
            due("<" + text + ">", Check.of(text).variable(0, 3), 0);
        }
        variable("$a;$b;b=1;b=1;", 0, 'a', 0, 0, 1);
        variable("$a;$b;b=1;b=1;", 1, 'b', 0, 1, 0);

        CHECK.sentence("Promise 9", "4 how many PLACES use it, 5 how many assign it.");
        variable("$a;", 0, 'a', 0, 0, 1, 0, 0);
        variable("$a;a;", 0, 'a', 0, 0, 1, 1, 0);
        variable("$a;a=1;", 0, 'a', 0, 0, 1, 0, 1);
        variable("$a;a=a=a;", 0, 'a', 0, 0, 0, 1, 2);
        variable("$a;R;a=a;", 0, 'a', 0, 0, 1, 1, 1);
        variable("$a;" + "a|".repeat(117) + "a;", 0, 'a', 0, 0, 1, 118, 0);
        variable("$a;" + "a=1;".repeat(59), 0, 'a', 0, 0, 0, 0, 59);
        variable("{$a;a;}{$a;a=1;}", 0, 'a', 0, 1, 1, 1, 0);
        variable("{$a;a;}{$a;a=1;}", 1, 'a', 0, 5, 1, 0, 1);

        CHECK.sentence("Promise 9", "5 how many assign it. BAD.");
        String[] texts = {"", "#;", "}", "$a;$a;", "$a;", TWELVE};
        int[] many = {0, 0, 0, 0, 1, 12};
        for (int k = 0; k < texts.length; k++) {
            AssignFlow flow = Check.of(texts[k]);
            for (int what = 0; what < 6; what++) {
                due("v too large", flow.variable(many[k], what), BAD);
                due("v = 12", flow.variable(12, what), BAD);
                for (int far : FAR) {
                    due("variable(" + far + ", " + what + ")", flow.variable(far, what), BAD);
                }
                if (many[k] > 0) {
                    CHECK.isTrue("the last one", flow.variable(many[k] - 1, what) >= 0);
                }
            }
            due("what too large", flow.variable(0, 6), BAD);
            for (int far : FAR) {
                due("variable(0, " + far + ")", flow.variable(0, far), BAD);
            }
        }
    }

    private static void promise10() {
        CHECK.sentence("Promise 10", "What = 0 PLACES, 1 VARIABLES, 2 ERRORS, 3 COLLECTED;");
        counts("", 0, 0, 0, 0);
        counts("}", 0, 0, 0, 0);
        counts(TWELVE, 12, 12, 0, 0);
        counts("{$a;}".repeat(12), 24, 12, 0, 0);
        counts("0;".repeat(120), 240, 0, 0, 0);
        counts("R;" + "0;".repeat(119), 239, 0, 119, 0);
        AssignFlow flow = Check.of("$a;a;");
        for (int i = 1; i <= 240; i++) {
            flow.collect('0', 1);
            due("count(3)", flow.count(3), i);
        }
        flow.collect('0', 1);
        due("count(3), FULL", flow.count(3), 240);
        due("PLACES stay", flow.count(0), 3);
        due("VARIABLES stay", flow.count(1), 1);
        due("ERRORS stay", flow.count(2), 1);

        CHECK.sentence("Promise 10", "4 whether some WALK comes to the end of the unit (1 or 0)");
        for (String text : new String[] {"", "}", "#;", "I(#)R;", "W(1)B;", "W(0)R;", "2:B2;", "T{X;}K{}", "S(0){}"}) {
            due("<" + text + ">", Check.of(text).count(4), 1);
        }
        for (String text : new String[] {"R;", "X;", "W(1)#;", "I(#)R;E X;", "F(1;#)C;", "D#;(1);", "T{}N{R;}"}) {
            due("<" + text + ">", Check.of(text).count(4), 0);
        }

        CHECK.sentence("Promise 10", "5 VARIABLES that are there and ASSIGNED for sure at the end.");
        due("none", Check.of("").count(5), 0);
        due("not ASSIGNED", Check.of("$a;").count(5), 0);
        due("not for sure", Check.of("$a;I(#)a=1;").count(5), 0);
        due("VARIABLE 0", Check.of("$a;a=1;").count(5), 1);
        due("no more there", Check.of("{$a;a=1;}").count(5), 0);
        due("no more there, of S", Check.of("S(#){O:$a;a=1;}").count(5), 0);
        due("of two", Check.of("$a;$b;b=1;").count(5), 2);
        due("of twelve", Check.of(TWELVE + "l=1;").count(5), 1 << 11);
        due("all twelve", Check.of(TWELVE + "a=b=c=d=e=f=g=h=i=j=k=l=1;").count(5), ALL_TWELVE);
        due("an end that is not REACHED", Check.of(TWELVE + "R;").count(5), ALL_TWELVE);
        due("not REACHED, no more there", Check.of("$a;{$b;}R;").count(5), 1);

        CHECK.sentence("Promise 10", "ASSIGNED for sure at the end. BAD.");
        for (String text : new String[] {"", "}", "#;", TWELVE}) {
            due("what too large", Check.of(text).count(6), BAD);
            for (int far : FAR) {
                due("count(" + far + ")", Check.of(text).count(far), BAD);
            }
        }
    }

    public static void main(String[] args) {
        numbers();
        sortsOfPlaces();
        aroundPlaces();
        variablesAt();
        badPlaces();
        badFacts();
        bitsOfFacts();
        ends();
        afterJumps();
        bothEnds();
        roundsOfWalks();
        casesOfWalks();
        triesOfWalks();
        kindsOfErrors();
        refusedErrors();
        promise9();
        promise10();
        CHECK.end();
    }
}
