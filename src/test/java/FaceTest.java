import java.io.IOException;
import java.lang.reflect.Constructor;
import java.lang.reflect.Field;
import java.lang.reflect.Method;
import java.lang.reflect.Modifier;
import java.nio.file.Files;
import java.nio.file.Path;
import java.util.ArrayList;
import java.util.Collections;
import java.util.List;
import java.util.Set;
import java.util.TreeSet;
import java.util.regex.Matcher;
import java.util.regex.Pattern;

/** The public face: just the constant, the constructor and the methods that the document lists. */
public final class FaceTest {
    private static final Path DOCUMENT = Path.of("../shared/DOC.md");
    private static final Pattern DUE_METHOD = Pattern.compile("public (\\w+ \\w+)\\(([^)]*)\\)( throws [\\w, ]+)?;");
    private static final int METHODS = 57;
    private static final Check CHECK = new Check("FaceTest");

    public static void main(String[] args) throws IOException {
        Class<CakeDivision> face = CakeDivision.class;
        CHECK.same("the modifiers", face.getModifiers(), Modifier.PUBLIC | Modifier.FINAL);
        CHECK.same("NONE", CakeDivision.NONE, -1);
        checkMethods(face, dueMethods());
        checkConstructors(face);
        checkFields(face);
        checkInnerNames(face);
        CHECK.finish();
    }

    /** The methods of "The public face", each as describe tells a method of the class. */
    private static List<String> dueMethods() throws IOException {
        String document = Files.readString(DOCUMENT);
        int from = document.indexOf("## The public face");
        Matcher matcher = DUE_METHOD.matcher(document.substring(from, document.indexOf("\n}\n", from)));
        List<String> due = new ArrayList<>();
        while (matcher.find()) {
            String types = matcher.group(2).replaceAll("(\\w+) \\w+", "$1").replace(" ", "");
            String exceptions = matcher.group(3) == null ? "" : matcher.group(3).replaceAll(" throws|,", "");
            due.add(matcher.group(1) + "(" + types + ")" + exceptions);
        }
        CHECK.same("the number of methods in the document", due.size(), METHODS);
        return due;
    }

    private static void checkMethods(Class<?> face, List<String> due) {
        List<String> got = new ArrayList<>();
        for (Method method : face.getDeclaredMethods()) {
            if (Modifier.isPublic(method.getModifiers())) {
                CHECK.same(method.getName() + " is public and no more", method.getModifiers(), Modifier.PUBLIC);
                got.add(describe(method));
            } else if (!method.isSynthetic()) {
                CHECK.same(method.getName() + " is private", Modifier.isPrivate(method.getModifiers()), true);
            }
        }
        Collections.sort(due);
        Collections.sort(got);
        CHECK.same("the public methods", got.toString(), due.toString());
    }

    private static String describe(Method method) {
        StringBuilder text = new StringBuilder();
        text.append(method.getReturnType().getSimpleName()).append(' ').append(method.getName()).append('(');
        String comma = "";
        for (Class<?> parameter : method.getParameterTypes()) {
            text.append(comma).append(parameter.getSimpleName());
            comma = ",";
        }
        text.append(')');
        for (Class<?> exception : method.getExceptionTypes()) {
            text.append(' ').append(exception.getSimpleName());
        }
        return text.toString();
    }

    private static void checkConstructors(Class<?> face) {
        Constructor<?>[] constructors = face.getDeclaredConstructors();
        CHECK.same("the number of constructors", constructors.length, 1);
        CHECK.same("the constructor", constructors[0].toString(), "public CakeDivision()");
    }

    private static void checkFields(Class<?> face) {
        int open = 0;
        for (Field field : face.getDeclaredFields()) {
            open += Modifier.isPrivate(field.getModifiers()) ? 0 : 1;
        }
        CHECK.same("the number of fields that are not private", open, 1);
    }

    /** No private method bears the name of a public one, inside the inner classes either. */
    private static void checkInnerNames(Class<?> face) {
        Set<String> taken = new TreeSet<>();
        for (Method method : face.getDeclaredMethods()) {
            if (Modifier.isPublic(method.getModifiers())) {
                taken.add(method.getName());
            }
        }
        List<Class<?>> all = new ArrayList<>(List.of(face.getDeclaredClasses()));
        all.add(face);
        for (Class<?> inner : all) {
            for (Method method : inner.getDeclaredMethods()) {
                boolean clashes = taken.contains(method.getName()) && !Modifier.isPublic(method.getModifiers());
                CHECK.same(inner + "." + method.getName() + " bears a public name", clashes, false);
            }
        }
    }
}
