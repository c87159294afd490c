/**
 * Where the FAULT of a text is: each sentence of the document that names a boundary case of texts has a test of its
 * own, by hand; then what holds for all texts.
 */
public final class FaultTest extends TextCheck {
    private static final String FAULT = "Promise 5 (THE FAULT)";
    private static final String TEXTS = "Promise 4 (TEXTS)";
    private static final String UNIT = "Promise 4 (the unit)";

    // The signs with which an e, a body, a stmt may begin.
    private static final String EXPRESSION = "!(01#";
    private static final String BODY = EXPRESSION + "{23456789IWDFSTBCRX";
    private static final String STATEMENT = BODY + "$%";

    // Units in which every rule is used.
    private static final String[] WHOLE = {
        "$a;%b;2:W(a|!b&(a=1)){I(#?b=0:a)C2;E B;T{X a;}K{R;}N{b=1;}}",
        "$a;S(a=1){L:$b;b=1;O:D{b;C;}(#);L:}F(a;a=0){S(#){}B;}",
        "%a;T{T{a=1;}N{2:{B2;}}}K{X;}3:I(#)I(1)a=0;E{}E#;"};

    private static final String SIGNS = "$%{}:;()IEWDFSLOTKNBCRXaz029#!&|?= \n~@A";

    private static String times(int n, String s) {
        return s.repeat(n);
    }

    private static void signsThatCannotCome() {
        CHECK.sentence(FAULT, "THE FAULT is the first sign (blanks do not count) with which, read from the left, no "
            + "unit goes on");
        fault("$A;", 1);
        fault("$a:", 2);
        fault("$$", 1);
        fault("}", 0);
        fault("{}}", 2);
        fault("E#;", 0);
        fault("K", 0);
        fault("L:", 0);
        fault("O:", 0);
        fault("N", 0);
        fault("0:", 1);
        fault("1:#;", 1);
        fault("2;", 1);
        fault("(#;", 2);
        fault("#);", 1);
        fault("##", 1);
        fault("#!", 1);
        fault("&#;", 0);
        fault("#&;", 2);
        fault("#|&#;", 2);
        fault("#?#;", 3);
        fault("#:#;", 1);
        fault("!;", 1);
        fault(";", 0);
        fault("=1;", 0);
        fault("I#", 1);
        fault("I()", 2);
        fault("I(#)}", 4);
        fault("I(#)#;E#;E#;", 9);
        fault("W(#);", 4);
        fault("D#;;", 3);
        fault("D#;(#)#;", 6);
        fault("F(#)", 3);
        fault("F(#;#;", 5);
        fault("F(;#)", 2);
        fault("R}", 1);
        fault("R2;", 1);
        fault("X:", 1);
        fault("\t", 0);
        fault("#;\r", 2);
        fault("\u00e4", 0);
        fault("#;\u0000", 2);
    }

    private static void tries() {
        CHECK.sentence(UNIT, "T { { stmt } } K { { stmt } } [ N { { stmt } } ] or T { { stmt } } N { { stmt } }");
        good("T{}K{}");
        good("T{}N{}");
        good("T{}K{}N{}");
        fault("T#;", 1);
        fault("T{}", 3);
        fault("T{}#;", 3);
        fault("T{}E", 3);
        fault("T{}N{}K{}", 6);
        fault("T{}N{}N{}", 6);
        fault("T{}K{}K{}", 6);
        fault("T{}K{}N{}N{}", 9);
        fault("T{}K#;", 4);
    }

    private static void items() {
        CHECK.sentence(UNIT, "item = L : or O : or stmt (the first one is L : or O : , O : once at most)");
        good("S(#){}");
        good("S(#){L:}");
        good("S(#){O:L:L:#;{}}");
        good("S(#){L:O:}");
        fault("S(#)#;", 4);
        fault("S(#){#;}", 5);
        fault("S(#){2:#;}", 5);
        fault("S(#){$a;}", 5);
        fault("S(#){L;}", 6);
        fault("S(#){O:#;L:O:}", 11);
        fault("S(#){O:O:}", 7);
        fault("S(#){L:#;", 9);
        good("S(#){O:S(#){O:}}");
    }

    private static void endsTooEarly() {
        CHECK.sentence(FAULT, "the length, if it ends too early.");
        fault("$", 1);
        fault("$ ", 2);
        fault("$a\n\n", 4);
        fault("{", 1);
        fault("I(#)", 4);
        fault("I(#)#;E", 7);
        fault("D#;", 3);
        fault("D#;(#)", 6);
        fault("#", 1);
        fault("#?#:", 4);
        fault("B", 1);
        fault("2:", 2);
        fault(times(239, " ") + "#", 240);
        good("");
        good(" \n ");
        good(times(240, " "));
        good(times(238, "\n") + "#;");
    }

    /** The same PLACES, but that all behind the blanks have moved. */
    private static void blanksAt(String text, int gap, String blanks) {
        String wide = text.substring(0, gap) + blanks + text.substring(gap);
        AssignFlow narrow = Check.of(text);
        AssignFlow flow = Check.of(wide);
        CHECK.due("fault() of <" + wide + ">", flow.fault(), NONE);
        CHECK.due("PLACES of <" + wide + ">", flow.count(0), narrow.count(0));
        for (int p = 0; p < narrow.count(0); p++) {
            int first = narrow.place(p, 1);
            CHECK.due("sort in <" + wide + ">", flow.place(p, 0), narrow.place(p, 0));
            CHECK.due("first sign in <" + wide + ">", flow.place(p, 1), first < gap ? first : first + blanks.length());
        }
    }

    private static void blanksDoNotCount() {
        CHECK.sentence(TEXTS, "blanks (32, 10) may stand between all.");
        for (String text : WHOLE) {
            for (int gap = 0; gap <= text.length(); gap++) {
                blanksAt(text, gap, " ");
                blanksAt(text, gap, "\n");
                blanksAt(text, gap, times(60, " \n") + times(120 - text.length(), " "));
            }
        }
        good(" $ \n a ; a = 1 ; I ( a ) { } E { } T { } K { } N { } ");
        good("S ( # ) { L : O : B ; } 2 : W ( # ) C 2 ;");
        fault("$a ;  $  a;", 9);
        fault("# \n # ;", 4);
        fault("  E", 2);
        for (char c = 0; c < 256; c++) {
            boolean isBlank = c == 32 || c == 10;
            fault("#" + c + ";", isBlank ? NONE : ";&|?".indexOf(c) >= 0 ? 2 : 1);
        }
    }

    private static void names() {
        CHECK.sentence(FAULT, "a NAME of which no VARIABLE is there;");
        for (char c = 'a'; c <= 'z'; c++) {
            fault(c + ";", 0);
            fault(c + "=1;", 0);
            good("$" + c + ";" + c + "=" + c + ";");
        }
        fault("$a;b;", 3);
        fault("$a;b=a;", 3);
        fault("$a;a=b;", 5);
        fault("$a;a|b;", 5);
        fault("$a; b ;", 4);
        fault("$a;%b;$c;%d;$e;%f;$g;%h;$i;%j;$k;%l;m;", 36);
        fault("{$a;}a;", 5);
        fault("{$a;a;}a=1;", 7);
        fault("I(#){$a;}E a;", 11);
        fault("D{$a;}(a);", 7);
        fault("F(#;a){$a;}", 4);
        fault("T{$a;}K{a;}", 8);
        fault("T{$a;}N{a;}", 8);
        fault("T{}K{$a;}N{a;}", 11);
        fault("T{}K{}N{$a;}a;", 12);
        good("S(#){L:$a;O:a;}");
        good("S(#){L:$a;O:{a;}}");
        fault("S(#){L:{$a;}O:a;}", 14);
        fault("S(#){L:$a;}a;", 11);

        CHECK.sentence(FAULT, "one given while one of that NAME is;");
        for (String pair : new String[] {"$a;$a;", "$a;%a;", "%a;$a;", "%a;%a;"}) {
            fault(pair, 4);
        }
        fault("$a;$ \na;", 6);
        fault("$a;{$a;}", 5);
        fault("$a;{{$b;$a;}}", 9);
        fault("$a;T{}K{}N{$a;}", 12);
        fault("$a;S(#){L:$a;}", 11);
        fault("S(#){L:$a;O:$a;}", 13);
        good("{$a;}{$a;}$a;");
        good("T{$a;}K{$a;}N{$a;}$a;");
        good("S(#){L:$a;}%a;");
        good("I(#){$a;}E{$a;}");

        CHECK.sentence(UNIT, "body = stmt, but not $ or %.");
        for (char c : new char[] {'$', '%'}) {
            fault("I(#)" + c + "a;", 4);
            fault("I(#)#;E" + c + "a;", 7);
            fault("W(#)" + c + "a;", 4);
            fault("D" + c + "a;(#);", 1);
            fault("F(#;#)" + c + "a;", 6);
            fault("2: " + c + "a;", 3);
            good("I(#){" + c + "a;}E{" + c + "a;}");
            good("S(#){L:" + c + "a;}");
        }

        CHECK.sentence(UNIT, "e = NAME = e or cond cond = or [ ? e : cond ] or = and { | and } and = unary { & unary } "
            + "unary = ! unary or prim prim = NAME or 0 or 1 or # or ( e ).");
        fault("$a;(a)=1;", 6);
        fault("$a;!a=1;", 5);
        fault("$a;a|a=1;", 6);
        fault("$a;a&a=1;", 6);
        fault("$a;#?a:a=1;", 8);
        fault("$a;a==1;", 5);
        fault("0=1;", 1);
        good("$a;#?a=1:a;");
        good("$a;a=a=1;");
        good("$a;a=#?a=1:#?0:(a=1);");
        good("$a;#?#:(a=1);");
        good("!!!#&!#|(#)&((0));");
    }

    private static void thirteenVariables() {
        CHECK.sentence(FAULT, "the $ or % of a 13th VARIABLE;");
        good(TWELVE);
        fault(TWELVE + "$m;", 36);
        fault(TWELVE + "%m;", 36);
        fault(TWELVE + " %a;", 37);
        fault(TWELVE + "$", 36);
        fault(TWELVE + "#;{{#;$m;}}", 42);
        // VARIABLES that are there no more are counted, too.
        String inBlocks = times(12, "{$a;}");
        good(inBlocks);
        fault(inBlocks + "$a;", 60);
        fault("S(#){L:" + inBlocks + "%a;}", 67);
        good(times(11, "{$a;}") + "$a;");
        // But those of an earlier unit are not.
        AssignFlow flow = Check.of(TWELVE);
        CHECK.due("read() of twelve others", Check.read(flow, TWELVE), 12);
    }

    private static void labels() {
        CHECK.sentence(FAULT, "a LABEL given that a statement around has;");
        good("2:#;2:#;");
        good("2:3:4:5:6:7:8:9:{B2;B9;B5;}");
        good("2:{3:#;3:#;}3:2:#;");
        for (char c = '2'; c <= '9'; c++) {
            fault(c + ":" + c + ":#;", 2);
            fault("2:3:4:5:6:7:8:9:{" + c + ":#;}", 17);
        }
        fault("2: 2:#;", 3);
        fault("2:2", 2);
        fault("2:{3:{2:#;}}", 6);
        fault("2:I(#)2:#;", 6);
        fault("2:I(#)#;E2:#;", 9);
        fault("2:W(#)2:#;", 6);
        fault("2:D2:#;(#);", 3);
        fault("2:F(#;#)2:#;", 8);
        fault("2:S(#){L:2:#;}", 9);
        fault("2:T{2:#;}N{}", 4);
        fault("2:T{}K{2:#;}", 7);
        fault("2:T{}N{2:#;}", 7);

        CHECK.sentence(FAULT, "behind B or C a LABEL that no statement around has (of C: none whose body is W, D or "
            + "F);");
        good("2:B2;");
        good("9:{B9;}");
        fault("B2;", 1);
        fault("C2;", 1);
        fault("W(#)B2;", 5);
        fault("W(#)C2;", 5);
        fault("2:#;B2;", 5);
        fault("2:{B3;}", 4);
        fault("{B 2;}", 3);
        fault("2:W(#){}B2;", 9);
        fault("2:W(#){}C2;", 9);
        good("2:W(#)C2;");
        good("2:D{C2;}(#);");
        good("2:F(#;#){I(#)C2;}");
        good("2:W(#)3:D{C2;C3;B2;B3;}(#);");
        good("2:W(#)T{C2;}K{C2;}N{C2;}");
        fault("2:C2;", 3);
        fault("2:{C2;}", 4);
        fault("2:{W(#)C2;}", 8);
        fault("2:T{W(#)C2;}N{}", 9);
        fault("W(#)2:C2;", 7);
        fault("2:S(#){L:C2;}", 10);
        fault("2:I(#)W(#)C2;", 11);
        // Of 2 the body is a LABEL's statement, and no loop.
        fault("2:3:W(#)C2;", 9);
        good("2:3:W(#)C3;");
        good("2:3:W(#)B2;");

        CHECK.sentence(UNIT, "NAME is a .. z, LABEL 2 .. 9.");
        for (char c = 0; c < 256; c++) {
            boolean isName = c >= 'a' && c <= 'z';
            boolean isLabel = c >= '2' && c <= '9';
            boolean isBlank = c == ' ' || c == '\n';
            fault("$" + c + ";", isName ? NONE : isBlank ? 2 : 1);
            fault("%" + c + ";", isName ? NONE : isBlank ? 2 : 1);
            boolean begins = isBlank || STATEMENT.indexOf(c) >= 0;
            fault(c + ":{}", isLabel ? NONE : begins ? 1 : 0);
        }
        fault("W(#)B1;", 5);
        fault("W(#)C0;", 5);
    }

    private static void jumpsWithoutLabels() {
        CHECK.sentence(FAULT, "the ; behind B, if no W, D, F, S is around, behind C, if no W, D, F is;");
        fault("B;", 1);
        fault("C;", 1);
        fault("B ;", 2);
        fault("C\n\n;", 3);
        fault("2:B;", 3);
        fault("2:{B\n;}", 5);
        fault("{B;}", 2);
        fault("I(#)B;", 5);
        fault("T{B;}K{}", 3);
        fault("T{}N{C;}", 6);
        good("W(#)B;");
        good("W(#)C;");
        good("D B;(#);");
        good("D C;(#);");
        good("F(#;#)B;");
        good("F(#;#)C;");
        good("S(#){L:B;}");
        good("S(#){O:T{B;}K{B;}N{B;}}");
        good("W(#)2:{I(#)T{C;}N{B;}}");
        fault("S(#){L:C;}", 8);
        good("W(#)S(#){L:C;}");
        fault("W(#)#;B;", 7);
        fault("W(#)#;C;", 7);
        fault("D#;(#);B;", 8);
        fault("F(#;#)#;C;", 9);
        fault("S(#){}B;", 7);
        fault("S(#){L:W(#)#;C;}", 14);
    }

    private static void depthOfStatements() {
        CHECK.sentence(FAULT, "a statement within 20 others");
        good(times(20, "{") + times(20, "}"));
        fault(times(21, "{"), 20);
        fault(times(20, "{") + " #;", 21);
        fault(times(20, "{") + " \n", 22);
        good(times(19, "{") + "#;" + times(19, "}"));
        for (char c : STATEMENT.toCharArray()) {
            fault(times(20, "{") + c, 20);
            fault(times(20, "{") + "\n" + c, 21);
        }
        fault(times(20, "I(#)") + "#;", 80);
        good(times(19, "I(#)") + "#;");
        fault(times(20, "I(#)"), 80);
        good(times(19, "W(#)") + "B;");
        good(times(19, "D") + "C;" + times(19, "(#);"));
        fault(times(20, "D") + "#;", 20);
        good(times(19, "F(#;#)") + "R;");
        fault(times(20, "F(#;#)") + "R;", 120);
        good(times(19, "I(#){}E ") + "X;");
        // The body behind the 20th ) comes ahead of the one behind its E.
        fault(times(20, "I(#){}E") + "X;", 137);
        fault(times(10, "W(#){") + "#;", 50);
        good("2:3:4:5:6:7:8:9:" + times(11, "{") + "#;" + times(11, "}"));
        fault("2:3:4:5:6:7:8:9:" + times(12, "{") + "#;", 28);
        // The { } of T, K, N and S are no statements of their own, nor are L : and O : .
        good(times(19, "T{") + "#;" + times(19, "}N{}"));
        fault(times(20, "T{") + "#;", 40);
        good(times(20, "T{") + times(20, "}K{}"));
        good(times(20, "T{}K{") + times(20, "}"));
        fault(times(20, "T{}N{") + "#;", 100);
        fault(times(19, "{") + "T{}K{}N{#;", 27);
        fault(times(19, "{") + "S(#){L:#;", 26);
        good(times(19, "{") + "S(#){L:O:}" + times(19, "}"));
        good(times(18, "{") + "S(#){L:#;O:R;}" + times(18, "}"));
        // Statements that have ended are not around.
        good(times(30, "{{}}"));
        good(times(19, "{") + times(20, "#;") + times(19, "}"));
    }

    /** An e that is as deep as can be within what is around it, and one that is a step too deep. */
    private static void deepest(String ahead, String behind) {
        good(ahead + times(29, "!") + "#" + behind);
        fault(ahead + times(30, "!") + "#" + behind, ahead.length() + 30);
        good(ahead + times(29, "(") + "#" + times(29, ")") + behind);
        fault(ahead + times(30, "(") + "#" + times(30, ")") + behind, ahead.length() + 30);
    }

    private static void depthOfExpressions() {
        CHECK.sentence(FAULT, "an e, a cond behind : , a unary behind ! within 30 others of these (of one statement), "
            + "at its first sign.");
        deepest("", ";");
        deepest("I(", ")#;");
        deepest("W(", ")#;");
        deepest("D#;(", ");");
        deepest("F(", ";#)#;");
        deepest("F(#;", ")#;");
        deepest("S(", "){}");
        deepest("R", ";");
        deepest("X", ";");
        deepest("#&", ";");
        deepest("#|", ";");
        fault(times(30, "("), 30);
        fault(times(30, "(") + " \n#", 32);
        fault(times(30, "!") + " ", 31);
        for (char c : EXPRESSION.toCharArray()) {
            fault(times(30, "(") + c, 30);
            fault(times(30, "!") + c, 30);
        }
        good("$a;" + times(29, "a=") + "1;");
        fault("$a;" + times(30, "a=") + "1;", 63);
        fault("$a;" + times(30, "(") + "a=1", 33);
        good(times(29, "#?#:") + "#;");
        // The e behind the 30th ? comes ahead of the cond behind its :
        fault(times(30, "#?#:") + "#;", 118);
        fault(times(29, "#?#:") + "(#);", 117);
        fault(times(29, "#?#:") + "!#;", 117);
        good(times(29, "#?") + "#" + times(29, ":#") + ";");
        fault(times(30, "#?") + "#", 60);
        // A cond behind : is within all that the e behind the ? is within, and no more.
        good(times(28, "(") + "#?#:#" + times(28, ")") + ";");
        fault(times(29, "(") + "#?#", 31);
        good(times(28, "(") + "#?#:#&#" + times(28, ")") + ";");
        fault(times(28, "(") + "#?#:#?#", 34);
        fault(times(28, "(") + "#?#:!#", 33);
        fault("(" + times(29, "!") + "#", 30);
        good("(" + times(28, "!") + "#);");
        fault(times(15, "(!") + "#", 30);
        good(times(14, "(!") + "(#" + times(15, ")") + ";");
        // Sides of & and | lie within no e of their own, and what has ended is not around.
        good("#" + times(100, "&#") + ";");
        good("#" + times(30, "|#&!#") + ";");
        good("(#)" + times(40, "&(#)") + ";");
        good(times(29, "(") + "#&#" + times(29, ")") + "|" + times(29, "!") + "#;");
        // Each statement begins anew, and so does each e of one that is not within the other.
        good("F(" + times(29, "!") + "#;" + times(29, "!") + "#)" + times(29, "!") + "#;");
        good("I(" + times(29, "!") + "#)I(" + times(29, "!") + "#)" + times(29, "!") + "#;");
        // As deep as can be in statements and in parts of e at once.
        good(times(19, "{") + times(29, "(") + "#" + times(29, ")") + ";" + times(19, "}"));
        fault(times(19, "T{") + times(30, "(") + "#", 68);
    }

    /** All signs that may come next, tried against all that there are; isWhole tells that the text may end here. */
    private static void next(String ahead, String signs, boolean isWhole) {
        int at = ahead.length();
        fault(ahead, isWhole ? NONE : at);
        for (char c = 0; c < 256; c++) {
            String text = ahead + c;
            if (c == ' ' || c == '\n') {
                fault(text, isWhole ? NONE : at + 1);
            } else if (signs.indexOf(c) < 0) {
                fault(text, at);
                fault(ahead + " \n" + c, at + 2);
                fault(text + "}", at);
            } else {
                int found = Check.of(text).fault();
                CHECK.isTrue("<" + text + "> goes on", found == NONE || found == at + 1);
            }
        }
    }

    private static void next(String ahead, String signs) {
        next(ahead, signs, false);
    }

    private static void nextSignsOfStatements() {
        CHECK.sentence(UNIT, "unit = { stmt } stmt = ( $ or % ) NAME ; or { { stmt } } or LABEL : body or I ( e ) body "
            + "[ E body ] or W ( e ) body or D body ( e ) ; or F ( e ; e ) body or S ( e ) { { item } } or");
        String letters = "abcdefghijklmnopqrstuvwxyz";
        next("", STATEMENT, true);
        next("$", letters);
        next("$a", ";");
        next("%", letters);
        next("%a", ";");
        next("$a;", STATEMENT + "a", true);
        next("{", STATEMENT + "}");
        next("{}", STATEMENT, true);
        next("{$a;", STATEMENT + "a}");
        next("{$a;}", STATEMENT, true);
        next("2", ":");
        next("2:", BODY.replace("2", ""));
        next("2:{}", STATEMENT, true);
        next("I", "(");
        next("I(", EXPRESSION);
        next("I(#", ")&|?");
        next("I(#)", BODY);
        next("I(#){}", STATEMENT + "E", true);
        next("I(#){}E", BODY);
        next("I(#){}E{}", STATEMENT, true);
        next("I(#)I(#){}E{}", STATEMENT + "E", true);
        next("I(#)I(#){}E{}E{}", STATEMENT, true);
        next("I(#)W(#){}", STATEMENT + "E", true);
        next("I(#)D{", STATEMENT + "}");
        next("W", "(");
        next("W(#", ")&|?");
        next("W(#)", BODY);
        next("W(#){}", STATEMENT, true);
        next("D", BODY);
        next("D{}", "(");
        next("D{}(", EXPRESSION);
        next("D{}(#", ")&|?");
        next("D{}(#)", ";");
        next("DI(#){}", "(E");
        next("F", "(");
        next("F(", EXPRESSION);
        next("F(#", ";&|?");
        next("F(#;", EXPRESSION);
        next("F(#;#", ")&|?");
        next("F(#;#)", BODY);
    }

    private static void nextSignsOfParts() {
        CHECK.sentence(UNIT, "or S ( e ) { { item } } or T { { stmt } } K { { stmt } } [ N { { stmt } } ] or T { "
            + "{ stmt } } N { { stmt } } or B [ LABEL ] ; or C [ LABEL ] ; or R [ e ] ; or X [ e ] ; or e ;");
        next("S", "(");
        next("S(#", ")&|?");
        next("S(#)", "{");
        next("S(#){", "LO}");
        next("S(#){L", ":");
        next("S(#){O", ":");
        next("S(#){L:", STATEMENT + "LO}");
        next("S(#){O:", STATEMENT + "L}");
        next("S(#){L:O:L:", STATEMENT + "L}");
        next("S(#){L:{}", STATEMENT + "LO}");
        next("S(#){O:{}", STATEMENT + "L}");
        next("S(#){O:S(#){", "LO}");
        next("S(#){L:S(#){O:}", STATEMENT + "LO}");
        next("S(#){}", STATEMENT, true);
        next("T", "{");
        next("T{", STATEMENT + "}");
        next("T{}", "KN");
        next("T{}K", "{");
        next("T{}K{", STATEMENT + "}");
        next("T{}K{}", STATEMENT + "N", true);
        next("T{}K{}N", "{");
        next("T{}K{}N{", STATEMENT + "}");
        next("T{}K{}N{}", STATEMENT, true);
        next("T{}N", "{");
        next("T{}N{}", STATEMENT, true);
        next("B", "");
        next("C", "");
        next("W(#)B", ";");
        next("W(#)C", ";");
        next("S(#){L:B", ";");
        next("S(#){L:C", "");
        next("2:B", "2");
        next("2:C", "");
        next("2:3:W(#)B", "23;");
        next("2:3:W(#)C", "3;");
        next("2:W(#)B2", ";");
        next("R", EXPRESSION + ";");
        next("R#", ";&|?");
        next("X", EXPRESSION + ";");
        next("X#", ";&|?");
    }

    private static void nextSignsOfExpressions() {
        CHECK.sentence(UNIT, "e = NAME = e or cond cond = or [ ? e : cond ] or = and { | and } and = unary { & unary } "
            + "unary = ! unary or prim prim = NAME or 0 or 1 or # or ( e ).");
        for (String leaf : new String[] {"0", "1", "#", "!#", "#&#", "#|#", "(#)", "#?#:#"}) {
            next(leaf, ";&|?");
            next("(" + leaf, ")&|?");
        }
        next("#&", EXPRESSION);
        next("#|", EXPRESSION);
        next("#?", EXPRESSION);
        next("#?#", ":&|?");
        next("#?#:", EXPRESSION);
        next("#?#?#:#", ":&|?");
        next("!", EXPRESSION);
        next("(", EXPRESSION);
        next("$a;a", "=;&|?");
        next("$a;a=", EXPRESSION + "a");
        next("$a;a=a", "=;&|?");
        next("$a;a=#", ";&|?");
        next("$a;#&a", ";&|?");
        next("$a;#|a", ";&|?");
        next("$a;!a", ";&|?");
        next("$a;(a", "=)&|?");
        next("$a;(a)", ";&|?");
        next("$a;#?a", "=:&|?");
        next("$a;#?#:a", ";&|?");
        next("$a;I(a", "=)&|?");
    }

    /** The FAULT of a text moves with it, if as many PLACES as there can be stand ahead of it. */
    private static void atFullLength(String text) {
        AssignFlow flow = new AssignFlow();
        Check.read(flow, text);
        int alone = flow.fault();
        for (int all = 238; all <= 240; all++) {
            int ahead = all - text.length();
            String full = times(ahead / 2, "0;") + times(ahead % 2, " ") + text;
            fault(full, alone == NONE ? NONE : alone + ahead);
        }
    }

    private static void fullLength() {
        CHECK.sentence(TEXTS, "TEXTS have up to 240 signs");
        fault(times(119, "0;") + "!0", 240);
        fault(times(119, "0;") + "0&", 240);
        fault(times(119, "0;") + "0|", 240);
        fault(times(119, "0;") + "0?", 240);
        fault(times(119, "0;") + "00", 239);
        fault(times(119, "0;") + "!;", 239);
        fault(times(119, "0;") + "{{", 240);
        fault(times(118, "0;") + "!0&0", 240);
        fault(times(118, "0;") + "!!!0", 240);
        fault(times(118, "0;") + "R!!0", 240);
        fault("{" + times(119, "0;") + "0", 240);
        good(times(120, "0;"));
        good("{" + times(119, "0;") + "}");
        good(times(116, "0;") + "!!!!!!0;");
        String signs = "$%{}:;(IWDFSTBCRXa2#0!&|?=";
        for (char a : signs.toCharArray()) {
            atFullLength("" + a);
            for (char b : signs.toCharArray()) {
                atFullLength("" + a + b);
                for (char c : signs.toCharArray()) {
                    atFullLength("" + a + b + c);
                    atFullLength("!" + a + b + c);
                }
            }
        }
    }

    /** What follows a FAULT never moves it, and what stands ahead of it has none, or only lacks its end. */
    private static void firstSign(String text) {
        int at = Check.of(text).fault();
        if (at == NONE) {
            return;
        }
        CHECK.isTrue("the fault of <" + text + "> is in it", at >= 0 && at <= text.length());
        int ahead = Check.of(text.substring(0, at)).fault();
        CHECK.isTrue("ahead of the fault of <" + text + ">", ahead == NONE || ahead == at);
        if (at < text.length()) {
            CHECK.isTrue("the fault of <" + text + "> is no blank", text.charAt(at) != ' ' && text.charAt(at) != '\n');
            CHECK.due("fault() of <" + text + "> cut behind it", Check.of(text.substring(0, at + 1)).fault(), at);
        }
    }

    private static void allTexts() {
        CHECK.sentence(FAULT, "THE FAULT is the first sign (blanks do not count) with which, read from the left, no "
            + "unit goes on; the length, if it ends too early.");
        for (String text : WHOLE) {
            good(text);
            for (int i = 0; i < text.length(); i++) {
                String cut = text.substring(0, i);
                int end = Check.of(cut).fault();
                CHECK.isTrue("the beginning <" + cut + ">", end == NONE || end == i);
                for (char c : SIGNS.toCharArray()) {
                    firstSign(cut + c + text.substring(i + 1));
                    firstSign(cut + c + text.substring(i));
                }
                firstSign(cut + text.substring(i + 1));
            }
        }
    }

    public static void main(String[] args) {
        signsThatCannotCome();
        tries();
        items();
        endsTooEarly();
        blanksDoNotCount();
        names();
        thirteenVariables();
        labels();
        jumpsWithoutLabels();
        depthOfStatements();
        depthOfExpressions();
        nextSignsOfStatements();
        nextSignsOfParts();
        nextSignsOfExpressions();
        fullLength();
        allTexts();
        CHECK.end();
    }
}
