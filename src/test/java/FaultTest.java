/** Where the FAULT of a text is: by hand for each rule, and by what holds for all texts. */
public final class FaultTest {
    private static final Check CHECK = new Check();
    private static final String SIGNS = "$%{}:;()IEWDFSLOTKNBCRXaz029#!&|?= \n~@A";

    private static void fault(String text, int due) {
        AssignFlow flow = new AssignFlow();
        int read = Check.read(flow, text);
        CHECK.due("fault() of <" + text + ">", flow.fault(), due);
        CHECK.isTrue("read() of <" + text + "> refuses", (read == AssignFlow.SHAPE) == (due != AssignFlow.NONE));
    }

    private static void good(String text) {
        fault(text, AssignFlow.NONE);
    }

    private static String times(int n, String s) {
        return s.repeat(n);
    }

    private static void signsThatCannotCome() {
        fault("$A;", 1);
        fault("$a:", 2);
        fault("$$", 1);
        fault("}", 0);
        fault("{}}", 2);
        fault("E#;", 0);
        fault("K", 0);
        fault("L:", 0);
        fault("O:", 0);
        fault("N", 0);
        fault("0:", 1);
        fault("1:#;", 1);
        fault("2;", 1);
        fault("(#;", 2);
        fault("#);", 1);
        fault("##", 1);
        fault("#!", 1);
        fault("&#;", 0);
        fault("#&;", 2);
        fault("#|&#;", 2);
        fault("#?#;", 3);
        fault("#:#;", 1);
        fault("!;", 1);
        fault(";", 0);
        fault("=1;", 0);
        fault("I#", 1);
        fault("I()", 2);
        fault("I(#)}", 4);
        fault("I(#)#;E#;E#;", 9);
        fault("W(#);", 4);
        fault("D#;;", 3);
        fault("D#;(#)#;", 6);
        fault("F(#)", 3);
        fault("F(#;#;", 5);
        fault("F(;#)", 2);
        fault("R}", 1);
        fault("R2;", 1);
        fault("X:", 1);
        fault("\t", 0);
        fault("#;\r", 2);
        fault("\u00e4", 0);
        fault("#;\u0000", 2);
    }

    private static void tries() {
        good("T{}K{}");
        good("T{}N{}");
        good("T{}K{}N{}");
        fault("T#;", 1);
        fault("T{}", 3);
        fault("T{}#;", 3);
        fault("T{}E", 3);
        fault("T{}N{}K{}", 6);
        fault("T{}N{}N{}", 6);
        fault("T{}K{}K{}", 6);
        fault("T{}K{}N{}N{}", 9);
        fault("T{}K#;", 4);
    }

    private static void items() {
        good("S(#){}");
        good("S(#){L:}");
        good("S(#){O:L:L:#;{}}");
        good("S(#){L:O:}");
        fault("S(#)#;", 4);
        fault("S(#){#;}", 5);
        fault("S(#){2:#;}", 5);
        fault("S(#){$a;}", 5);
        fault("S(#){L;}", 6);
        fault("S(#){O:#;L:O:}", 11);
        fault("S(#){O:O:}", 7);
        fault("S(#){L:#;", 9);
        good("S(#){O:S(#){O:}}");
    }

    private static void endsTooEarly() {
        fault("$", 1);
        fault("$ ", 2);
        fault("$a\n\n", 4);
        fault("{", 1);
        fault("I(#)", 4);
        fault("I(#)#;E", 7);
        fault("D#;", 3);
        fault("D#;(#)", 6);
        fault("#", 1);
        fault("#?#:", 4);
        fault("B", 1);
        fault("2:", 2);
        fault(times(239, " ") + "#", 240);
        good("");
        good(" \n ");
        good(times(240, " "));
        good(times(238, "\n") + "#;");
    }

    private static void blanksDoNotCount() {
        good(" $ \n a ; a = 1 ; I ( a ) { } E { } T { } K { } N { } ");
        good("S ( # ) { L : O : B ; } 2 : W ( # ) C 2 ;");
        fault("$a ;  $  a;", 9);
        fault("# \n # ;", 4);
        fault("  E", 2);
    }

    private static void names() {
        fault("a;", 0);
        fault("a=1;", 0);
        fault("$a;b;", 3);
        fault("$a;a=b;", 5);
        fault("$a;a|b;", 5);
        fault("$a;$a;", 4);
        fault("$a;%a;", 4);
        fault("$a;{$a;}", 5);
        good("{$a;}{$a;}$a;");
        fault("{$a;}a;", 5);
        fault("{$a;a;}a=1;", 7);
        fault("T{$a;}K{a;}", 8);
        fault("T{$a;}N{a;}", 8);
        fault("T{}K{$a;}N{a;}", 11);
        good("T{$a;}K{$a;}N{$a;}$a;");
        good("S(#){L:$a;O:a;}");
        fault("S(#){L:$a;O:$a;}", 13);
        fault("S(#){L:$a;}a;", 11);
        fault("I(#)$a;", 4);
        fault("I(#)#;E%a;", 7);
        fault("W(#)$a;", 4);
        fault("D$a;", 1);
        fault("F(#;#)%a;", 6);
        fault("2:$a;", 2);
        fault("$a;(a)=1;", 6);
        fault("$a;!a=1;", 5);
        fault("$a;a|a=1;", 6);
        fault("$a;#?a:a=1;", 8);
        good("$a;#?a=1:a;");
        good("$a;a=a=1;");
        good("$a;#?#:(a=1);");
        fault("$a;a==1;", 5);
    }

    private static void thirteenVariables() {
        String twelve = "$a;%b;$c;%d;$e;%f;$g;%h;$i;%j;$k;%l;";
        good(twelve);
        fault(twelve + "$m;", 36);
        fault(twelve + " %a;", 37);
        fault(twelve + "#;{{#;$m;}}", 42);
        String inBlocks = times(12, "{$a;}");
        good(inBlocks);
        fault(inBlocks + "$a;", 60);
        fault("S(#){L:" + inBlocks + "%a;}", 67);
    }

    private static void labels() {
        good("2:B2;");
        good("9:{B9;}");
        good("2:#;2:#;");
        good("2:3:4:5:6:7:8:9:{B2;B9;B5;}");
        fault("2:2:#;", 2);
        fault("2:{3:{2:#;}}", 6);
        fault("2:I(#)2:#;", 6);
        fault("B2;", 1);
        fault("2:#;B2;", 5);
        fault("2:{B3;}", 4);
        fault("{B 2;}", 3);
        good("2:W(#)C2;");
        good("2:D{C2;}(#);");
        good("2:F(#;#){I(#)C2;}");
        good("2:W(#)3:D{C2;C3;B2;B3;}(#);");
        fault("2:C2;", 3);
        fault("2:{C2;}", 4);
        fault("W(#)2:C2;", 7);
        fault("2:S(#){L:C2;}", 10);
        fault("2:I(#)W(#)C2;", 11);
        // Of 2 the body is a LABEL's statement, and no loop.
        fault("2:3:W(#)C2;", 9);
        good("2:3:W(#)C3;");
        good("2:3:W(#)B2;");
        fault("2:W(#){}C2;", 9);
        fault("W(#)B1;", 5);
        fault("W(#)C0;", 5);
    }

    private static void jumpsWithoutLabels() {
        fault("B;", 1);
        fault("C;", 1);
        fault("B ;", 2);
        fault("2:B;", 3);
        fault("2:{B\n;}", 5);
        fault("I(#)B;", 5);
        good("W(#)B;");
        good("D B;(#);");
        good("F(#;#)C;");
        good("S(#){L:B;}");
        good("S(#){O:T{B;}K{B;}N{B;}}");
        fault("S(#){L:C;}", 8);
        good("W(#)S(#){L:C;}");
        fault("W(#)#;B;", 7);
        fault("T{B;}K{}", 3);
    }

    private static void depthOfStatements() {
        good(times(20, "{") + times(20, "}"));
        fault(times(21, "{"), 20);
        fault(times(20, "{") + " #;", 21);
        good(times(19, "{") + "#;" + times(19, "}"));
        fault(times(20, "{") + "$a;", 20);
        fault(times(20, "I(#)") + "#;", 80);
        good(times(19, "I(#)") + "#;");
        fault(times(20, "I(#)"), 80);
        fault(times(10, "W(#){") + "#;", 50);
        good("2:3:4:5:6:7:8:9:" + times(11, "{") + "#;" + times(11, "}"));
        fault("2:3:4:5:6:7:8:9:" + times(12, "{") + "#;", 28);
        // The { } of T, K, N and S are no statements of their own.
        good(times(19, "T{") + "#;" + times(19, "}N{}"));
        fault(times(20, "T{") + "#;", 40);
        good(times(20, "T{") + times(20, "}K{}"));
        fault(times(19, "{") + "T{}K{}N{#;", 27);
        fault(times(19, "{") + "S(#){L:#;", 26);
    }

    private static void depthOfExpressions() {
        good(times(29, "(") + "#" + times(29, ")") + ";");
        fault(times(30, "(") + "#", 30);
        fault(times(30, "("), 30);
        fault(times(30, "(") + " \n#", 32);
        good(times(29, "!") + "#;");
        fault(times(30, "!") + "#;", 30);
        good("$a;" + times(29, "a=") + "1;");
        fault("$a;" + times(30, "a=") + "1;", 63);
        good(times(29, "#?#:") + "#;");
        // The e behind the 30th ? comes ahead of the cond behind its :
        fault(times(30, "#?#:") + "#;", 118);
        fault(times(29, "#?#:") + "(#);", 117);
        good(times(29, "#?") + "#" + times(29, ":#") + ";");
        fault(times(30, "#?") + "#", 60);
        fault("(" + times(29, "!") + "#", 30);
        good("(" + times(28, "!") + "#);");
        fault(times(15, "(!") + "#", 30);
        good(times(14, "(!") + "(#" + times(15, ")") + ";");
        // Sides of & and | lie within no e of their own, and each statement begins anew.
        good("#" + times(100, "&#") + ";");
        good("#" + times(30, "|#&!#") + ";");
        good("F(" + times(29, "!") + "#;" + times(29, "!") + "#)" + times(29, "!") + "#;");
        good(times(29, "(") + "#&#" + times(29, ")") + "|" + times(29, "!") + "#;");
        fault("R" + times(31, "("), 31);
        good("X" + times(29, "!") + "#;");
    }

    /** The FAULT of a text moves with it, if as many PLACES as there can be stand ahead of it. */
    private static void atFullLength(String text) {
        AssignFlow flow = new AssignFlow();
        Check.read(flow, text);
        int alone = flow.fault();
        for (int all = 238; all <= 240; all++) {
            int ahead = all - text.length();
            String full = times(ahead / 2, "0;") + times(ahead % 2, " ") + text;
            fault(full, alone == AssignFlow.NONE ? AssignFlow.NONE : alone + ahead);
        }
    }

    private static void fullLength() {
        fault(times(119, "0;") + "!0", 240);
        fault(times(119, "0;") + "0&", 240);
        fault(times(119, "0;") + "0|", 240);
        fault(times(119, "0;") + "0?", 240);
        fault(times(119, "0;") + "00", 239);
        fault(times(119, "0;") + "!;", 239);
        fault(times(119, "0;") + "{{", 240);
        fault(times(118, "0;") + "!0&0", 240);
        fault(times(118, "0;") + "!!!0", 240);
        fault(times(118, "0;") + "R!!0", 240);
        fault("{" + times(119, "0;") + "0", 240);
        good(times(120, "0;"));
        good("{" + times(119, "0;") + "}");
        good(times(116, "0;") + "!!!!!!0;");
        String signs = "$%{}:;(IWDFSTBCRXa2#0!&|?=";
        for (char a : signs.toCharArray()) {
            atFullLength("" + a);
            for (char b : signs.toCharArray()) {
                atFullLength("" + a + b);
                for (char c : signs.toCharArray()) {
                    atFullLength("" + a + b + c);
                    atFullLength("!" + a + b + c);
                }
            }
        }
    }

    /** What follows a FAULT never moves it, and what stands ahead of it has none, or only lacks its end. */
    private static void firstSign(AssignFlow flow, String text) {
        Check.read(flow, text);
        int at = flow.fault();
        if (at == AssignFlow.NONE) {
            return;
        }
        CHECK.isTrue("the fault of <" + text + "> is in it", at >= 0 && at <= text.length());
        Check.read(flow, text.substring(0, at));
        CHECK.isTrue("ahead of the fault of <" + text + ">", flow.fault() == AssignFlow.NONE || flow.fault() == at);
        if (at < text.length()) {
            CHECK.isTrue("the fault of <" + text + "> is no blank", text.charAt(at) != ' ' && text.charAt(at) != '\n');
            Check.read(flow, text.substring(0, at + 1));
            CHECK.due("fault() of <" + text + "> cut behind it", flow.fault(), at);
        }
    }

    private static void allTexts() {
        String[] texts = {
            "$a;%b;2:W(a|!b&(a=1)){I(#?b=0:a)C2;E B;T{X a;}K{R;}N{b=1;}}",
            "$a;S(a=1){L:$b;b=1;O:D{b;C;}(#);L:}F(a;a=0){S(#){}B;}",
            "%a;T{T{a=1;}N{2:{B2;}}}K{X;}3:I(#)I(1)a=0;E{}E#;",
        };
        AssignFlow flow = new AssignFlow();
        for (String text : texts) {
            good(text);
            for (int i = 0; i < text.length(); i++) {
                String cut = text.substring(0, i);
                Check.read(flow, cut);
                CHECK.isTrue("the beginning <" + cut + ">", flow.fault() == AssignFlow.NONE || flow.fault() == i);
                for (char c : SIGNS.toCharArray()) {
                    firstSign(flow, cut + c + text.substring(i + 1));
                    firstSign(flow, cut + c + text.substring(i));
                }
                firstSign(flow, cut + text.substring(i + 1));
            }
        }
    }

    public static void main(String[] args) {
        signsThatCannotCome();
        tries();
        items();
        endsTooEarly();
        blanksDoNotCount();
        names();
        thirteenVariables();
        labels();
        jumpsWithoutLabels();
        depthOfStatements();
        depthOfExpressions();
        fullLength();
        allTexts();
        CHECK.end();
    }
}
