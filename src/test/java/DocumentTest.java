import java.lang.reflect.Method;
import java.lang.reflect.Modifier;
import java.util.ArrayList;
import java.util.List;
import java.util.Set;
import java.util.TreeSet;

/**
 * The document from its first sentence to its last, in its order and with none left out (but for "Not promised"):
 * each sentence is followed by some answers that would not be as due if it did not hold.
 */
public final class DocumentTest extends TextCheck {
    private static final String DOCUMENT = Check.wordsOf(Check.document()
        .replaceAll("(?s)\n## Not promised.*", "")
        .replaceAll("(?m)^#.*$", "")
        .replaceAll("(?m)^```.*$", "")
        .replaceAll("======== \\d", ""));
    private static final List<String> OUT_OF_ORDER = new ArrayList<>();

    private static int at = 0;

    private static void says(String promise, String words) {
        CHECK.sentence(promise, words);
        int found = DOCUMENT.indexOf(words, at);
        if (!DOCUMENT.isEmpty() && found != at) {
            OUT_OF_ORDER.add(words);
        }
        at = Math.max(found, at) + words.length() + 1;
    }

    private static void whatItIs() {
        String promise = "What it is";
        says(promise, "What is assigned for sure, and what for sure is not: a small language of variables, conditions, "
            + "loops, jumps with labels, cases that fall through, tries with ends; all walks through it, at each place "
            + "before, after, when true, when false; what is used too early, assigned twice, never reached.");
        fact("$a;$b;a=1;", 2, AFTER, 1, 1, 2);
        errors("$a;%b;b=1;b=a;R;#;", 6, 2, 7, 1, 9, 3);

        says(promise, "TEXTS have up to 240 signs;");
        good("0;".repeat(120));
        fault("0;".repeat(119) + "00", 239);
        AssignFlow flow = new AssignFlow();
        Check.collect(flow, "0".repeat(240));
        due("a sign more", flow.collect('0', 1), FULL);

        says(promise, "blanks (32, 10) may stand between all.");
        good(" \n$\n \na ; a\n=\n1\n; ");
        good(" W ( # ) T { C ; } K { B ; } N { } \n");
        fault("$\ta;", 1);
        fault("# \r;", 2);
    }

    private static void calls() {
        says("Promises 1 to 10", "An object is used for at most 512 calls after it has been made; what later calls "
            + "answer is free.");
        AssignFlow flow = new AssignFlow();
        for (int call = 1; call <= 127; call++) {
            // Four calls each: three to collect, one to read.
            due("collect", flow.collect('$', 1), 1);
            due("collect", flow.collect('a' + call % 26, 1), 2);
            due("collect", flow.collect(';', 1), 3);
            due("read", flow.read(), 1);
        }
        due("call 509", flow.count(1), 1);
        due("call 510", flow.variable(0, 0), 'a' + 127 % 26);
        due("call 511", flow.fact(0, AFTER, 2), 1);
        due("call 512", flow.place(0, 0), '$');
    }

    private static void face() {
        String words = "public final class AssignFlow { public static final int NONE = -1, BAD = -2, FULL = -3, "
            + "SHAPE = -4; public AssignFlow(); public int collect(long w, int n); public int forget(); public int "
            + "read(); public int fault(); public int place(int p, int what); public int fact(int p, int when, int "
            + "what); public int error(int i, int what); public int variable(int v, int what); public int count("
            + "int what); }";
        says("The public face", words);
        Set<String> methods = new TreeSet<>();
        for (Method method : AssignFlow.class.getDeclaredMethods()) {
            if (!Modifier.isPrivate(method.getModifiers())) {
                methods.add(method.toString().replace("AssignFlow.", ""));
            }
        }
        Set<String> wanted = new TreeSet<>();
        for (String part : words.split("; ")) {
            if (part.startsWith("public int ")) {
                wanted.add(part.replaceAll("(int|long) \\w+([,)])", "$1$2").replace(", ", ","));
            }
        }
        due("methods", wanted.size(), 9);
        CHECK.isTrue("methods " + methods, methods.equals(wanted));
        CHECK.isTrue("public", Modifier.isPublic(AssignFlow.class.getModifiers()));
        CHECK.isTrue("final", Modifier.isFinal(AssignFlow.class.getModifiers()));
        due("constructors", AssignFlow.class.getConstructors().length, 1);
        due("constants", AssignFlow.class.getFields().length, 4);
        due("NONE", AssignFlow.NONE, -1);
        due("BAD", AssignFlow.BAD, -2);
        due("FULL", AssignFlow.FULL, -3);
        due("SHAPE", AssignFlow.SHAPE, -4);
    }

    private static void statements() {
        String promise = "Promise 4 (the unit)";
        says(promise, "NAME is a .. z, LABEL 2 .. 9.");
        good("$a;$z;2:9:#;");
        fault("$`;", 1);
        fault("${;", 1);
        fault("1:#;", 1);
        fault("::#;", 0);
        says(promise, "unit = { stmt }");
        sorts("", "");
        sorts("#;$a;{}", ";#${");
        says(promise, "stmt = ( $ or % ) NAME ;");
        sorts("$a;%b;", "$%");
        fault("$a", 2);
        fault("$;", 1);
        fault("%%", 1);
        says(promise, "or { { stmt } }");
        sorts("{}{#;{}}", "{{;#{");
        fault("{#;", 3);
        says(promise, "or LABEL : body");
        sorts("2:3:{}", "::{");
        fault("2#;", 1);
        says(promise, "or I ( e ) body [ E body ]");
        sorts("I(1)0;", "I1;0");
        sorts("I(1)0;E{}", "I1;0{");
        fault("I(1)E", 4);
        says(promise, "or W ( e ) body");
        sorts("W(1)0;", "W1;0");
        fault("W 1", 2);
        says(promise, "or D body ( e ) ;");
        sorts("D 0;(1);", "D;01");
        fault("D 0;(1)0", 7);
        says(promise, "or F ( e ; e ) body");
        sorts("F(1;#)0;", "F1#;0");
        fault("F(1)", 3);
        says(promise, "or S ( e ) { { item } }");
        sorts("S(1){}", "S1");
        fault("S(1)L", 4);
        says(promise, "or T { { stmt } } K { { stmt } } [ N { { stmt } } ]");
        sorts("T{0;}K{1;}", "T;0;1");
        sorts("T{0;}K{1;}N{#;}", "T;0;1;#");
        says(promise, "or T { { stmt } } N { { stmt } }");
        sorts("T{0;}N{1;}", "T;0;1");
        fault("T{}", 3);
        fault("T{}N{}K", 6);
        says(promise, "or B [ LABEL ] ;");
        sorts("2:W(1){B;B2;}", ":W1{BB");
        fault("W(1)B1;", 5);
        says(promise, "or C [ LABEL ] ;");
        sorts("2:W(1){C;C2;}", ":W1{CC");
        fault("W(1)C#;", 5);
        says(promise, "or R [ e ] ;");
        sorts("R;R 1;", "RR1");
        fault("R{", 1);
        says(promise, "or X [ e ] ;");
        sorts("X;X 1;", "XX1");
        fault("X1 1", 3);
        says(promise, "or e ;");
        sorts("1;", ";1");
        fault(";", 0);
        says(promise, "item = L : or O : or stmt (the first one is L : or O : , O : once at most)");
        sorts("S(1){L:O:0;#;L:}", "S1;0;#");
        fault("S(1){0;", 5);
        fault("S(1){O:L:O", 9);
        says(promise, "body = stmt, but not $ or %.");
        fault("2:$", 2);
        fault("D%", 1);
        good("W(1){$a;}");
        says(promise, "(An E belongs to the I that is nearest.)");
        arounds("I(1)I(1){}E{}", NONE, 0, 0, 2, 2, 2);
    }

    private static void expressions() {
        String promise = "Promise 4 (the unit)";
        says(promise, "e = NAME = e or cond");
        sorts("$a;a=a=a;", "$;==a");
        fault("0=1;", 1);
        fault("$a;a&a=1;", 6);
        says(promise, "cond = or [ ? e : cond ]");
        sorts("$a;1?a=0:#?0:1;", "$;?1=0?#01");
        arounds("1?0:1?0:1;", NONE, 0, 1, 1, 1, 4, 4, 4);
        fault("$a;1?0:a=1;", 8);
        says(promise, "or = and { | and }");
        arounds("1&0|1&0;", NONE, 0, 1, 2, 2, 1, 5, 5);
        says(promise, "and = unary { & unary }");
        arounds("!1&!0;", NONE, 0, 1, 2, 1, 4);
        fault("1&|", 2);
        says(promise, "unary = ! unary or prim");
        arounds("!!1;", NONE, 0, 1, 2);
        fault("1!", 1);
        says(promise, "prim = NAME or 0 or 1 or # or ( e ).");
        sorts("$a;a|0|1|#|(a=1);", "$;||||a01#=1");
        fault("2;", 1);
        fault("()", 1);
    }

    private static void faults() {
        String promise = "Promise 5 (THE FAULT)";
        says(promise, "THE FAULT is the first sign (blanks do not count) with which, read from the left, no unit goes "
            + "on;");
        fault("0; \n }", 5);
        fault("0;}}", 2);
        fault("#$", 1);
        says(promise, "the length, if it ends too early.");
        fault("0; {", 4);
        fault("0; { \n", 6);
        fault("!", 1);
        says(promise, "So also: a NAME of which no VARIABLE is there;");
        fault("$a;b;", 3);
        fault("{$a;} a=1;", 6);
        says(promise, "one given while one of that NAME is;");
        fault("$a;{% a;}", 6);
        good("{$a;}%a;");
        says(promise, "the $ or % of a 13th VARIABLE;");
        good(TWELVE);
        fault(TWELVE + " %m;", 37);
        fault("{$a;}".repeat(12) + "$a;", 60);
        says(promise, "a LABEL given that a statement around has;");
        fault("2:{3:{2:#;}}", 6);
        good("2:{3:#;}2:#;");
        says(promise, "behind B or C a LABEL that no statement around has (of C: none whose body is W, D or F);");
        fault("W(1)B2;", 5);
        fault("2:{B3;}", 4);
        fault("2:{C2;}", 4);
        good("2:{B2;}");
        good("2:D C2;(1);");
        says(promise, "the ; behind B, if no W, D, F, S is around, behind C, if no W, D, F is;");
        fault("{B ;}", 3);
        fault("S(1){L:C;}", 8);
        good("S(1){L:B;}");
        good("F(1;1){C;}");
        says(promise, "a statement within 20 others,");
        good("{".repeat(19) + "1;" + "}".repeat(19));
        fault("{".repeat(20) + " 1;", 21);
        says(promise, "an e, a cond behind : , a unary behind ! within 30 others of these (of one statement), at its "
            + "first sign.");
        good("(".repeat(29) + "1" + ")".repeat(29) + ";");
        fault("(".repeat(30) + " 1", 31);
        good("$a;" + "a=".repeat(29) + "1;");
        fault("$a;" + "a=".repeat(30) + "1;", 63);
        good("1?0:".repeat(29) + "1;");
        fault("1?0:".repeat(29) + "1?0", 118);
        fault("(".repeat(29) + "!1", 30);
        good("W(" + "!".repeat(29) + "1)" + "!".repeat(29) + "1;");
        fault("!".repeat(30) + "1;", 30);
    }

    private static void variablesAndPlaces() {
        String promise = "Promise 6 (VARIABLES)";
        says(promise, "VARIABLES ($) and FINAL ones (%) are numbered as they are given;");
        variablesOfPlaces("%b;$a;{%c;c;}a;b;", 0, 1, NONE, 2, NONE, 2, NONE, 1, NONE, 0);
        says(promise, "one is there from behind its stmt to the end of the { } around (of S: of all its items), or of "
            + "the unit.");
        fact("$a;{$b;#;}#;", 3, BEFORE, 1, 0, 3);
        fact("$a;{$b;#;}#;", 5, BEFORE, 1, 0, 1);
        fact("S(#){L:$a;O:#;}", 3, BEFORE, 1, 0, 1);
        fault("S(#){L:$a;}a;", 11);
        fault("T{$a;}K{a;}", 8);
        due("of the unit", Check.of("$a;{$b;}R;").count(5), 1);

        promise = "Promise 6 (PLACES)";
        says(promise, "PLACES are all stmts and all parts of e (NAME, 0, 1, #, ! with what is behind it, & and | with "
            + "both sides, from the left, ? : with all three, NAME = e;");
        sorts("$a;a=!0&1|#?a:0;", "$;=?|&!01#a0");
        arounds("$a;a=!0&1|#?a:0;", NONE, NONE, 1, 2, 3, 4, 5, 6, 5, 4, 3, 3);
        arounds("1|0|#;", NONE, 0, 1, 2, 2, 1);
        says(promise, "brackets are none, and no signs of theirs),");
        sorts("((1)&(0));", ";&10");
        firstSigns("((1)&(0));", 0, 2, 2, 6);
        says(promise, "numbered from 0 on by their first signs; of those that begin with one sign the outer one "
            + "first.");
        firstSigns(" 1&0|# ; D{}(1);", 1, 1, 1, 1, 3, 5, 9, 10, 13);
        sorts(" 1&0|# ; D{}(1);", ";|&10#D{1");
    }

    private static void walksOfExpressions() {
        String promise = "Promise 7 (WALKS)";
        says(promise, "WALKS begin at the beginning of the unit.");
        fact("$a;", 0, BEFORE, 1, 0, 0);
        due("an empty one", Check.of("").count(4), 1);
        says(promise, "An e ends TRUE or FALSE: NAME and # both ways;");
        endsOf("$a;a=0;a;", 5, 1, 1);
        endsOf("#;", 1, 1, 1);
        says(promise, "0 FALSE, 1 TRUE;");
        endsOf("0;", 1, 0, 1);
        endsOf("1;", 1, 1, 0);
        says(promise, "! the other way;");
        endsOf("!0;", 1, 1, 0);
        endsOf("!1;", 1, 0, 1);
        fact("$a;!(#&(a=1));", 2, WHEN_FALSE, 1, 1, 0);
        says(promise, "& goes on to its right side if the left one is TRUE, else it is FALSE;");
        fact("$a;#&(a=1);", 2, WHEN_TRUE, 1, 1, 0);
        fact("$a;#&(a=1);", 2, WHEN_FALSE, 1, 0, 1);
        isReached("0&#;", 3, BEFORE, 0);
        says(promise, "| likewise if it is FALSE;");
        fact("$a;#|(a=0);", 2, WHEN_TRUE, 1, 0, 1);
        fact("$a;#|(a=0);", 2, WHEN_FALSE, 1, 1, 0);
        isReached("1|#;", 3, BEFORE, 0);
        says(promise, "? : to one of two;");
        fact("$a;$b;#?a=1:(b=1);", 3, AFTER, 1, 0, 0);
        fact("$a;$b;#?a=1:(b=0);", 3, WHEN_TRUE, 1, 1, 2);
        fact("$a;$b;#?a=1:(b=0);", 3, WHEN_FALSE, 1, 2, 1);
        isReached("0?#:#;", 3, BEFORE, 0);
        says(promise, "NAME = e as e, and the VARIABLE is ASSIGNED then.");
        fact("$a;a=0;", 2, WHEN_FALSE, 1, 1, 0);
        endsOf("$a;a=0;", 2, 0, 1);
        fact("$a;a=0;", 3, AFTER, 1, 0, 1);
        says(promise, "$, % : the VARIABLE is not ASSIGNED.");
        fact("D{%a;a=1;}(#);", 2, AFTER, 1, 0, 1);
        fact("D{$a;a=1;}(#);", 2, AFTER, 1, 0, 1);
        says(promise, "stmts of e, R, X go on from both ends.");
        fact("$a;#&(a=1);", 1, AFTER, 1, 0, 0);
        fact("$a;T{R#&(a=1);}N{#;}", 7, BEFORE, 1, 0, 0);
        isReached("T{X 0;}N{#;}", 3, BEFORE, 1);
    }

    /** Whether the e at PLACE p ends TRUE, and whether it ends FALSE. */
    private static void endsOf(String text, int p, int isTrue, int isFalse) {
        isReached(text, p, WHEN_TRUE, isTrue);
        isReached(text, p, WHEN_FALSE, isFalse);
    }

    private static void walksOfStatements() {
        String promise = "Promise 7 (WALKS)";
        says(promise, "I: to its body if TRUE, else to that of E, or on.");
        fact("$a;$b;I(#)a=1;E b=1;", 2, AFTER, 1, 0, 0);
        fact("$a;I(!(a=#))#;E{}", 5, BEFORE, 1, 1, 0);
        isReached("I(1){}E{}", 3, BEFORE, 0);
        isReached("I(0)R;", 0, AFTER, 1);
        says(promise, "W: e; if TRUE its body, then e again.");
        fact("$a;W(#)a=1;", 2, BEFORE, 1, 0, 0);
        fact("$a;W(#)a=1;", 3, BEFORE, 1, 0, 0);
        fact("$a;W(a=#){}", 1, AFTER, 1, 1, 0);
        isReached("W(1){}", 0, AFTER, 0);
        says(promise, "D: its body, e, if TRUE again.");
        fact("$a;D a=1;(#);", 5, BEFORE, 1, 1, 0);
        fact("$a;D{}(a=#);", 2, BEFORE, 1, 0, 0);
        isReached("D{}(1);", 0, AFTER, 0);
        says(promise, "F: e; if TRUE its body, then the second e, then the first one again.");
        fact("$a;$b;F(#;b=1)a=1;", 4, BEFORE, 1, 1, 0);
        fact("$a;$b;F(#;b=1)a=1;", 3, BEFORE, 1, 0, 0);
        isReached("F(1;0){}", 0, AFTER, 0);
        isReached("F(1;0)R;", 2, BEFORE, 0);
        says(promise, "S: e, then behind any L, O, or, without an O, behind all;");
        fact("$a;S(a=#){L:#;O:#;}", 5, BEFORE, 1, 1, 0);
        isReached("S(#){L:R;L:R;}", 0, AFTER, 1);
        isReached("S(#){L:R;O:R;}", 0, AFTER, 0);
        isReached("S(#){L:R;#;}", 3, BEFORE, 0);
        says(promise, "items go on one to the other.");
        fact("$a;S(#){L:a=1;O:#;}", 6, BEFORE, 1, 0, 0);
        fact("$a;S(#){O:a=1;#;}", 1, AFTER, 1, 1, 0);
        says(promise, "B goes behind the nearest W, D, F, S around, or that with the LABEL;");
        isReached("W(1)D B;(1);", 0, AFTER, 0);
        isReached("W(1)D B;(1);", 2, AFTER, 1);
        isReached("W(1)F(1;1)S(#){O:B;}", 5, AFTER, 1);
        isReached("2:W(1)W(1)B2;", 0, AFTER, 1);
        isReached("2:W(1)W(1)B2;", 3, AFTER, 0);
        says(promise, "C to where the nearest W, D, F (or that with the LABEL) begins its next round: to e; of F to "
            + "the second e.");
        fact("$a;W(#){a=1;C;}", 2, BEFORE, 1, 0, 0);
        isReached("D{C;}(#);", 3, BEFORE, 1);
        isReached("F(1;#){C;}", 2, BEFORE, 1);
        isReached("D S(#){O:C;}(0);", 4, BEFORE, 1);
        isReached("2:D W(1)C2;(0);", 5, BEFORE, 1);
        isReached("2:D W(1)C;(0);", 5, BEFORE, 0);
        says(promise, "R leaves the unit.");
        isReached("R;#;", 1, BEFORE, 0);
        isReached("W(#)R;", 0, AFTER, 1);
        isReached("T{T{R;#;}N{}#;}N{}", 5, BEFORE, 0);
        says(promise, "X raises.");
        isReached("X;#;", 1, BEFORE, 0);
        fact("$a;T{X a=1;}K{#;}", 5, BEFORE, 1, 0, 0);
        isReached("T{X;}K{}", 0, AFTER, 1);
    }

    private static void walksOfTries() {
        String promise = "Promise 7 (WALKS)";
        says(promise, "In the { } of T and K and N a WALK may also raise: before each PLACE there begins,");
        isReached("T{}K{{}}", 1, BEFORE, 0);
        isReached("T{{}}K{{}}", 2, BEFORE, 1);
        fact("$a;T{a=1;}K{{}}", 5, BEFORE, 1, 0, 0);
        isReached("T{T{X;}K{{}R;}}K{{}}", 5, BEFORE, 1);
        isReached("T{T{}N{{}}R;}K{{}}", 4, BEFORE, 1);
        says(promise, "and right behind each NAME = e there.");
        fact("$a;T{a=1;X;}K{{}}", 6, BEFORE, 1, 0, 0);
        fact("$a;T{R a=1;}K{{}}", 5, BEFORE, 1, 0, 0);
        fact("$a;T{W(a=1){}}K{{}}", 6, BEFORE, 1, 0, 0);
        says(promise, "What raises in the first { } of a T with K goes to that { }.");
        isReached("T{X;}K{#;}", 2, BEFORE, 1);
        fact("$a;T{T{a=1;X;}K{}}K{#;}", 7, BEFORE, 1, 0, 1);
        says(promise, "What leaves the first { } or that of K of a T with N in whatever way (at its end, by B, C, R, "
            + "or raising past K) goes through N first,");
        fact("$a;T{}N{a=1;}", 1, AFTER, 1, 1, 0);
        fact("$a;W(1)T{B;}N{a=1;}", 1, AFTER, 1, 1, 0);
        fact("$a;D T{C;}N{a=1;}(#);", 7, BEFORE, 1, 1, 0);
        isReached("T{R;}N{#;}", 2, BEFORE, 1);
        fact("$a;T{T{X;}K{X;}N{a=1;}R;}K{#;}", 9, BEFORE, 1, 0, 0);
        fact("$a;T{R;}K{}N{a=1;}", 1, AFTER, 1, 1, 0);
        says(promise, "and then on its way, if N comes to its end;");
        fact("$a;I(#)T{a=1;R;}N{}#;", 8, BEFORE, 1, 0, 1);
        isReached("W(1)T{B;}N{}", 2, AFTER, 0);
        isReached("W(1)T{B;}N{}", 0, AFTER, 1);
        isReached("T{T{X;}N{}}K{{}}", 3, BEFORE, 1);
        says(promise, "else that way is forgotten.");
        isReached("T{}N{R;}", 0, AFTER, 0);
        isReached("W(1)T{B;}N{C;}", 0, AFTER, 0);
        isReached("2:T{R;}N{B2;}", 0, AFTER, 1);
        says(promise, "What raises and finds nothing leaves the unit.");
        due("<X;>", Check.of("X;").count(4), 0);
        due("<T{X;}K{X;}N{}>", Check.of("T{X;}K{X;}N{}").count(4), 0);
        due("<T{X;}K{}>", Check.of("T{X;}K{}").count(4), 1);
    }

    private static void facts() {
        String promise = "Promise 7 (FACTS)";
        says(promise, "FACTS, at a PLACE: WHEN 0 BEFORE (all WALKS up to its beginning),");
        fact("$a;W(#)a=1;", 1, BEFORE, 1, 0, 1);
        fact("$a;W(#)a=1;", 2, BEFORE, 1, 0, 0);
        says(promise, "1 AFTER (up to where it has ended and goes on behind it: a stmt; an e both ways; not by jumps,");
        fact("$a;#&(a=1);", 2, AFTER, 1, 0, 0);
        isReached("2:{B2;}", 2, AFTER, 0);
        isReached("2:{B2;}", 1, AFTER, 0);
        isReached("W(#)C;", 2, AFTER, 0);
        isReached("R#;", 0, AFTER, 0);
        isReached("R#;", 1, AFTER, 1);
        says(promise, "of T not on other ways than at the end),");
        isReached("T{R;}N{}", 0, AFTER, 0);
        isReached("T{X;}K{}N{}", 0, AFTER, 1);
        fact("$a;T{a=1;}N{}", 1, AFTER, 1, 1, 0);
        says(promise, "2 when TRUE, 3 when FALSE (of e alone).");
        fact("$a;#&(a=#);", 2, WHEN_TRUE, 1, 1, 0);
        fact("$a;#&(a=#);", 2, WHEN_FALSE, 1, 0, 0);
        fact("#;", 0, WHEN_TRUE, BAD, BAD, BAD);
        says(promise, "It is REACHED, if there is such a WALK.");
        isReached("W(0)#;", 2, BEFORE, 0);
        isReached("W(#)#;", 2, BEFORE, 1);
        says(promise, "A VARIABLE that is there (BEFORE; AFTER also that of $, % itself)");
        fact("%a;", 0, BEFORE, 1, 0, 0);
        fact("%a;", 0, AFTER, 1, 0, 1);
        fact("{$a;}", 0, AFTER, 1, 0, 0);
        says(promise, "is ASSIGNED for sure, if it is on all such WALKS,");
        fact("$a;I(#)a=1;E a=0;", 1, AFTER, 1, 1, 0);
        fact("$a;I(#)a=1;E R;", 1, AFTER, 1, 1, 0);
        says(promise, "NOT ASSIGNED for sure, if it is on none;");
        fact("$a;I(#)a=1;E{}", 1, AFTER, 1, 0, 0);
        fact("$a;I(#){a=1;R;}", 1, AFTER, 1, 0, 1);
        says(promise, "both, if it is not REACHED.");
        fact("$a;R;#;", 2, BEFORE, 0, 1, 1);
        fact("$a;a=0;", 2, WHEN_TRUE, 0, 1, 1);
    }

    private static void errors() {
        String promise = "Promise 8 (ERRORS)";
        says(promise, "ERRORS: 1 a NAME that is used, whose PLACE is REACHED, and which is not ASSIGNED for sure "
            + "there.");
        errors("$a;I(#)a=1;a;", 7, 1);
        errors("$a;I(#&(a=1))a;E a;", 9, 1);
        errors("$a;0&a;1|a;");
        says(promise, "2 NAME = e of a FINAL one, to which (behind e, ahead of its being ASSIGNED) some WALK comes on "
            + "which it is ASSIGNED already.");
        errors("%a;a=a=1;", 2, 2);
        errors("%a;I(#)a=1;a=1;", 7, 2);
        errors("$a;a=1;a=1;");
        errors("%a;T{a=1;}K{a=0;}", 6, 2);
        says(promise, "3 a stmt that is not REACHED.");
        errors("W(1){}{{}}", 3, 3, 4, 3);
        errors("I(0)#;", 2, 3);
        says(promise, "They are in order of their PLACES.");
        errors("%a;%b;a=1;a=b;a=1;R;{}", 6, 2, 7, 1, 9, 2, 12, 3);
    }

    private static void refusals() {
        says("Promises 2 to 10", "REFUSALS are answers: BAD (a number is none, or out of its bounds) first; then what "
            + "a call names.");
        AssignFlow flow = new AssignFlow();
        Check.collect(flow, "0".repeat(240));
        due("no number of bytes, and no room", flow.collect(0, 9), BAD);
        due("no room", flow.collect(0, 8), FULL);
        due("no what, and none such", flow.error(0, 2), BAD);
        due("none such", flow.error(0, 1), NONE);
    }

    private static void promises1To3() {
        says("Promise 1", "`AssignFlow()`: An empty unit; nothing COLLECTED.");
        AssignFlow flow = new AssignFlow();
        for (int what = 0; what <= 5; what++) {
            due("count(" + what + ")", flow.count(what), what == 4 ? 1 : 0);
        }
        due("place(0, 0)", flow.place(0, 0), BAD);
        due("variable(0, 0)", flow.variable(0, 0), BAD);
        due("forget()", flow.forget(), 0);

        says("Promise 2", "`int collect(long w, int n)`: The n lowest bytes of w, the lowest first, come behind what "
            + "is COLLECTED: how many there are.");
        due("$a;", flow.collect(0x7F7F7F7F7F3B6124L, 3), 3);
        due("%b;a=1;", flow.collect(0xFF3B313D613B6225L, 7), 10);
        due("read()", flow.read(), 5);
        due("%b", flow.place(1, 0), '%');
        says("Promise 2", "BAD: n is not 1 .. 8;");
        due("0", flow.collect(0, 0), BAD);
        due("9", flow.collect(0, 9), BAD);
        due("8", flow.collect(0, 8), 8);
        due("1", flow.collect(0, 1), 9);
        says("Promise 2", "FULL: more than 240.");
        Check.collect(flow, " ".repeat(224));
        due("8 more than 233", flow.collect(0, 8), FULL);
        due("7 more than 233", flow.collect(0, 7), 240);
        due("1 more than 240", flow.collect(0, 1), FULL);

        says("Promise 3", "`int forget()`: Nothing is COLLECTED any more: how many there were.");
        due("forget()", flow.forget(), 240);
        due("count(3)", flow.count(3), 0);
        due("forget()", flow.forget(), 0);
        due("the unit stays", flow.count(0), 5);
    }

    private static void promises4And5() {
        says("Promise 4", "`int read()`: COLLECTED is the unit: how many PLACES; nothing is COLLECTED then.");
        AssignFlow flow = new AssignFlow();
        Check.collect(flow, "$a;a=1;");
        due("read()", flow.read(), 4);
        due("count(0)", flow.count(0), 4);
        due("count(3)", flow.count(3), 0);
        due("read() of nothing", flow.read(), 0);
        due("count(0)", flow.count(0), 0);
        says("Promise 4", "SHAPE: a FAULT; the unit is empty then.");
        Check.collect(flow, "$a;a=1;");
        flow.read();
        Check.collect(flow, "$a;a=");
        due("read()", flow.read(), SHAPE);
        due("count(0)", flow.count(0), 0);
        due("count(1)", flow.count(1), 0);
        due("count(4)", flow.count(4), 1);

        says("Promise 5", "`int fault()`: The place of the FAULT of the latest read(), as a sign of what was "
            + "COLLECTED;");
        due("fault()", flow.fault(), 5);
        Check.collect(flow, " }");
        due("as long as none is read", flow.fault(), 5);
        flow.read();
        due("fault()", flow.fault(), 1);
        says("Promise 5", "NONE: it had none, or before.");
        flow.read();
        due("it had none", flow.fault(), NONE);
        due("before", new AssignFlow().fault(), NONE);
    }

    private static void promises6And7() {
        String promise = "Promise 6";
        says(promise, "`int place(int p, int what)`: Of a PLACE: what = 0 its sort (a sign: $ % { : I W D F S T B C R "
            + "X ; of stmts, a NAME, 0 1 # ! & | ? = of e),");
        sorts("$a;%b;{2:I(a)W(b)D B;(0);}F(1;#)C;S(!0){}T{}N{}R;X;a=0&1|#?0:1;",
            "$%{:IaWbDB0F1#CS!0TRX;=?|&01#01");
        says(promise, "1 its first sign,");
        firstSigns("$a; a = 1;", 0, 4, 4, 8);
        says(promise, "2 the PLACE right around it (NONE),");
        arounds("$a;{a=1;}", NONE, NONE, 1, 2, 3);
        says(promise, "3 the VARIABLE of $, %, a NAME, = (NONE).");
        variablesOfPlaces("$a;%b;a=b;", 0, 1, NONE, 0, 1);
        says(promise, "BAD.");
        AssignFlow flow = Check.of("#;");
        due("place(-1, 0)", flow.place(-1, 0), BAD);
        due("place(2, 0)", flow.place(2, 0), BAD);
        due("place(0, -1)", flow.place(0, -1), BAD);
        due("place(0, 4)", flow.place(0, 4), BAD);

        promise = "Promise 7";
        says(promise, "`int fact(int p, int when, int what)`: A FACT at a PLACE: what = 0 whether it is REACHED (1 or "
            + "0),");
        isReached("#;", 0, BEFORE, 1);
        isReached("R;", 0, AFTER, 0);
        says(promise, "1 what is ASSIGNED for sure, 2 NOT ASSIGNED for sure (bit v for VARIABLE v).");
        fact(TWELVE + "l=1;", 12, AFTER, 1, 1 << 11, ALL_TWELVE - (1 << 11));
        says(promise, "BAD: also WHEN 2, 3 of a stmt.");
        due("fact(0, 2, 0)", flow.fact(0, 2, 0), BAD);
        due("fact(0, 3, 1)", flow.fact(0, 3, 1), BAD);
        due("fact(1, 3, 0)", flow.fact(1, 3, 0), 1);
        due("fact(2, 0, 0)", flow.fact(2, 0, 0), BAD);
        due("fact(1, 4, 0)", flow.fact(1, 4, 0), BAD);
        due("fact(1, 0, 3)", flow.fact(1, 0, 3), BAD);
    }

    private static void promises8To10() {
        AssignFlow flow = Check.of("%a;W(#)a=1;R;a;");
        says("Promise 8", "`int error(int i, int what)`: ERROR i: what = 0 its PLACE, 1 its KIND.");
        due("error(0, 0)", flow.error(0, 0), 4);
        due("error(0, 1)", flow.error(0, 1), 2);
        due("error(1, 0)", flow.error(1, 0), 7);
        due("error(1, 1)", flow.error(1, 1), 3);
        says("Promise 8", "NONE: there is none such; BAD: what.");
        due("error(2, 0)", flow.error(2, 0), NONE);
        due("error(-1, 0)", flow.error(-1, 0), NONE);
        due("error(0, 2)", flow.error(0, 2), BAD);

        String promise = "Promise 9";
        says(promise, "`int variable(int v, int what)`: Of a VARIABLE: what = 0 its NAME, 1 whether it is FINAL (1 or "
            + "0), 2 the PLACE that gives it,");
        variable("#;%z;{$q;}", 0, 'z', 1, 2);
        variable("#;%z;{$q;}", 1, 'q', 0, 4);
        says(promise, "3 whether it could be FINAL: no ERROR 2 would be of it (1 or 0),");
        variable("$a;I(#)a=1;E a=0;", 0, 'a', 0, 0, 1);
        variable("$a;a=1;a=0;", 0, 'a', 0, 0, 0);
        says(promise, "4 how many PLACES use it, 5 how many assign it.");
        variable("$a;a=1;a|a;a=a;", 0, 'a', 0, 0, 0, 3, 2);
        says(promise, "BAD.");
        due("variable(1, 0)", flow.variable(1, 0), BAD);
        due("variable(-1, 0)", flow.variable(-1, 0), BAD);
        due("variable(0, 6)", flow.variable(0, 6), BAD);

        promise = "Promise 10";
        says(promise, "`int count(int what)`: What = 0 PLACES, 1 VARIABLES, 2 ERRORS, 3 COLLECTED;");
        Check.collect(flow, "$a");
        due("count(0)", flow.count(0), 9);
        due("count(1)", flow.count(1), 1);
        due("count(2)", flow.count(2), 2);
        due("count(3)", flow.count(3), 2);
        says(promise, "4 whether some WALK comes to the end of the unit (1 or 0),");
        due("count(4)", flow.count(4), 0);
        due("count(4)", Check.of("W(#)R;").count(4), 1);
        says(promise, "5 VARIABLES that are there and ASSIGNED for sure at the end.");
        due("count(5)", Check.of("$a;$b;{$c;c=1;}b=1;").count(5), 2);
        says(promise, "BAD.");
        due("count(6)", flow.count(6), BAD);
        due("count(-1)", flow.count(-1), BAD);
    }

    public static void main(String[] args) {
        whatItIs();
        calls();
        face();
        statements();
        expressions();
        faults();
        variablesAndPlaces();
        walksOfExpressions();
        walksOfStatements();
        walksOfTries();
        facts();
        errors();
        refusals();
        promises1To3();
        promises4And5();
        promises6And7();
        promises8To10();
        CHECK.isTrue("sentences that do not follow the one ahead: " + OUT_OF_ORDER, OUT_OF_ORDER.isEmpty());
        if (!DOCUMENT.isEmpty()) {
            due("the document ends behind the last one", at, DOCUMENT.length() + 1);
        }
        CHECK.end();
    }
}
