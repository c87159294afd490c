import java.io.IOException;
import java.lang.reflect.Constructor;
import java.lang.reflect.Field;
import java.lang.reflect.Method;
import java.lang.reflect.Modifier;
import java.nio.file.Files;
import java.nio.file.Path;
import java.util.Set;
import java.util.TreeSet;
import java.util.regex.Pattern;

/** The rules of LANGUAGE.md that can be seen from the source or from the compiled class. */
public final class LanguageTest {
    private static final Check CHECK = new Check();
    private static final Path SOURCE = Path.of("src/main/java/AssignFlow.java");

    private static final Set<String> FACE = Set.of(
        "public int AssignFlow.collect(long,int)", "public int AssignFlow.forget()", "public int AssignFlow.read()",
        "public int AssignFlow.fault()", "public int AssignFlow.place(int,int)",
        "public int AssignFlow.fact(int,int,int)", "public int AssignFlow.error(int,int)",
        "public int AssignFlow.variable(int,int)", "public int AssignFlow.count(int)");

    private static final String[] RULED_OUT = {
        "throw", "throws", "try", "catch", "finally", "synchronized", "assert", "package", "import", "protected",
        "volatile", "native", "strictfp", "Object", "var", "hashCode", "toString", "\\w+Exact"};

    private static void face() {
        Set<String> methods = new TreeSet<>();
        for (Method method : AssignFlow.class.getDeclaredMethods()) {
            if (!Modifier.isPrivate(method.getModifiers())) {
                methods.add(method.toString());
            }
        }
        CHECK.isTrue("rule 1: methods " + methods, methods.equals(FACE));
        Set<String> fields = new TreeSet<>();
        for (Field field : AssignFlow.class.getDeclaredFields()) {
            if (!Modifier.isPrivate(field.getModifiers())) {
                fields.add(field.toString());
            }
        }
        CHECK.due("rule 1: constants " + fields, fields.size(), 4);
        CHECK.due("rule 1: constructors", AssignFlow.class.getDeclaredConstructors().length, 1);
        CHECK.isTrue("rule 1: final", Modifier.isFinal(AssignFlow.class.getModifiers()));
    }

    private static void membersOf(Class<?> type) {
        int fields = 0;
        for (Field field : type.getDeclaredFields()) {
            int is = field.getModifiers();
            fields += Modifier.isStatic(is) ? 0 : 1;
            CHECK.isTrue("rule 5: " + field, !Modifier.isStatic(is) || Modifier.isFinal(is));
        }
        CHECK.isTrue("rule 11: fields of " + type + ": " + fields, fields <= 20);
        for (Method method : type.getDeclaredMethods()) {
            CHECK.isTrue("rule 11: " + method, method.getParameterCount() <= 7);
            boolean isFace = type == AssignFlow.class && Modifier.isPublic(method.getModifiers());
            boolean hasNameOfFace = FACE.stream().anyMatch(f -> f.contains("." + method.getName() + "("));
            CHECK.isTrue("rule 1: " + method, isFace || Modifier.isPrivate(method.getModifiers()) && !hasNameOfFace);
        }
        for (Constructor<?> constructor : type.getDeclaredConstructors()) {
            CHECK.isTrue("rule 11: " + constructor, constructor.getParameterCount() <= 7);
        }
    }

    private static void classes() {
        Class<?>[] inner = AssignFlow.class.getDeclaredClasses();
        CHECK.isTrue("rule 11: classes", inner.length < 12);
        membersOf(AssignFlow.class);
        for (Class<?> type : inner) {
            CHECK.isTrue("rule 2: " + type, Modifier.isStatic(type.getModifiers()));
            membersOf(type);
        }
    }

    private static String withoutCommentsAndSigns(String source) {
        return source.replaceAll("(?s)/\\*.*?\\*/", "").replaceAll("'[^']*'", "0").replaceAll("//[^\n]*", "");
    }

    private static void words(String code) {
        for (String word : RULED_OUT) {
            CHECK.isTrue("no " + word, !Pattern.compile("\\b" + word + "\\b").matcher(code).find());
        }
        CHECK.isTrue("no lambda, no method reference", !code.contains("->") && !code.contains("::"));
        CHECK.isTrue("no text", !code.contains("\""));
    }

    /** Methods begin and end with a line of their own, four or eight blanks deep. */
    private static void lengths(String source) {
        String[] lines = source.split("\n");
        int from = -1;
        for (int i = 0; i < lines.length; i++) {
            if (lines[i].matches(" {4}( {4})?(public|private).*\\) \\{")) {
                from = i;
            } else if (from >= 0 && lines[i].matches(" {4}( {4})?\\}")) {
                CHECK.isTrue("rule 11: length of" + lines[from], i - from <= 60);
                from = -1;
            }
        }
    }

    /** Rule 7: no answer for any arguments but an int, in any state; what is thrown ends this test. */
    private static void neverThrows() {
        int[] numbers = {
            Integer.MIN_VALUE, -5, -1, 0, 1, 2, 3, 4, 5, 6, 7, 11, 12, 13, 239, 240, 241, Integer.MAX_VALUE};
        String[] texts = {
            "", "$a;a=1;", "}", "T{" + "!".repeat(60), "#" + "&#".repeat(119) + ";", "S(#){L:".repeat(30)};
        AssignFlow flow = new AssignFlow();
        for (String text : texts) {
            Check.read(flow, text);
            for (int p : numbers) {
                flow.count(p);
                flow.collect(p, p);
                for (int q : numbers) {
                    flow.place(p, q);
                    flow.error(p, q);
                    flow.variable(p, q);
                    for (int r : numbers) {
                        flow.fact(p, q, r);
                    }
                }
            }
        }
    }

    public static void main(String[] args) throws IOException {
        String source = Files.readString(SOURCE);
        face();
        classes();
        words(withoutCommentsAndSigns(source));
        lengths(source);
        neverThrows();
        CHECK.end();
    }
}
