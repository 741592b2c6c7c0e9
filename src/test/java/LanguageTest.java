import java.io.IOException;
import java.lang.reflect.Field;
import java.lang.reflect.Modifier;
import java.nio.file.Files;
import java.nio.file.Path;
import java.util.ArrayList;
import java.util.List;
import java.util.regex.Matcher;
import java.util.regex.Pattern;

/** The rules of LANGUAGE.md, as far as the text of the class and its fields can tell whether they are kept. */
public final class LanguageTest {
    private static final Check CHECK = new Check("LanguageTest");
    private static final Path SOURCE = Path.of("src/main/java/CakeDivision.java");
    private static final int MOST_LINES = 60;
    private static final int MOST_PARAMETERS = 7;
    private static final int MOST_CLASSES = 12;
    private static final int MOST_FIELDS = 20;
    private static final Pattern METHOD = Pattern.compile(
        "\n( +)(?:[a-zA-Z]+(?:\\[\\])? )*[a-zA-Z]+\\(([^()]*)\\)(?: throws [A-Za-z, ]+)? \\{\n");
    private static final String[] FORBIDDEN = {
        "\\bpackage\\b", "->", "::", "\\bfinally\\b", "\\bsynchronized\\b", "\\bassert\\b", "\\btry\\b",
        "\\bcatch\\b", "\\bvar\\b", "\\bObject\\b", "\\bThread\\b", "\\bRandom\\b", "\\bhashCode\\b", "\\bgetClass\\b",
        "\\bSystem\\.(?!arraycopy\\b)", "\\b[a-zA-Z]+Exact\\b", "\\bNaN\\b", "\\bstatic \\{",
        "import (?!java\\.util\\.(NoSuchElementException|Arrays|ArrayList|List|Iterator);)",
    };

    public static void main(String[] args) throws IOException {
        String text = withoutTexts(Files.readString(SOURCE));
        for (String forbidden : FORBIDDEN) {
            Matcher matcher = Pattern.compile(forbidden).matcher(text);
            CHECK.same("the first '" + forbidden + "'", matcher.find() ? matcher.group() : "", "");
        }
        checkMethods(text);
        checkFields();
        CHECK.finish();
    }

    private static String withoutTexts(String source) {
        return source.replaceAll("(?s)/\\*.*?\\*/", "").replaceAll("//[^\n]*", "").replaceAll("\"[^\"\n]*\"", "\"\"");
    }

    private static void checkMethods(String text) {
        Matcher matcher = METHOD.matcher(text);
        int methods = 0;
        while (matcher.find()) {
            methods++;
            String head = matcher.group().trim();
            int parameters = matcher.group(2).isEmpty() ? 0 : matcher.group(2).split(",").length;
            CHECK.same("few parameters: " + head, parameters <= MOST_PARAMETERS, true);
            int end = text.indexOf("\n" + matcher.group(1) + "}\n", matcher.end() - 1);
            long lines = text.substring(matcher.start(), end).lines().count();
            CHECK.same("few lines: " + head, lines <= MOST_LINES, true);
        }
        CHECK.same("the methods are found", methods > 100, true);
    }

    private static void checkFields() {
        List<Class<?>> classes = new ArrayList<>(List.of(CakeDivision.class.getDeclaredClasses()));
        classes.add(CakeDivision.class);
        CHECK.same("few classes", classes.size() <= MOST_CLASSES, true);
        for (Class<?> one : classes) {
            int fields = 0;
            for (Field field : one.getDeclaredFields()) {
                boolean isStatic = Modifier.isStatic(field.getModifiers());
                fields += isStatic ? 0 : 1;
                CHECK.same(field + " is final if static", !isStatic || Modifier.isFinal(field.getModifiers()), true);
            }
            CHECK.same("few fields: " + one, fields <= MOST_FIELDS, true);
            boolean isTop = one == CakeDivision.class;
            CHECK.same("static inside: " + one, isTop || Modifier.isStatic(one.getModifiers()), true);
        }
    }
}
