import java.lang.reflect.Constructor;
import java.lang.reflect.Field;
import java.lang.reflect.Method;
import java.lang.reflect.Modifier;
import java.util.ArrayList;
import java.util.Collections;
import java.util.List;
import java.util.Set;
import java.util.TreeSet;

/** The public face: just the constant, the constructor and the methods of the document. */
public final class FaceTest {
    private static final String[] METHODS = {
        "int append(int,int,int,int,int) IllegalStateException",
        "int truncate(int) IllegalArgumentException",
        "int load() IllegalArgumentException",
        "int errorCode()",
        "int errorPosition()",
        "int cellCount()",
        "int siblingCount()",
        "int nameByte(int,int) IndexOutOfBoundsException",
        "int findSibling() NoSuchElementException",
        "int value(int,int) IndexOutOfBoundsException",
        "int owner(int) IndexOutOfBoundsException",
        "int worth(int,int,int) IndexOutOfBoundsException IllegalArgumentException",
        "int total(int) IndexOutOfBoundsException",
        "int worthOfShare(int,int) IndexOutOfBoundsException",
        "int shareSize(int) IndexOutOfBoundsException",
        "int pieceCount(int) IndexOutOfBoundsException",
        "int freeCount()",
        "int mark(int,int,int) IndexOutOfBoundsException IllegalArgumentException",
        "int favouriteFreeCell(int) IndexOutOfBoundsException",
        "boolean envies(int,int) IndexOutOfBoundsException",
        "boolean isMild(int,int) IndexOutOfBoundsException IllegalStateException",
        "int envyCount()",
        "int strongEnvyCount()",
        "int mostEnvied()",
        "boolean isSatisfied(int) IndexOutOfBoundsException",
        "int satisfiedCount()",
        "int envyCycleLength(int) IndexOutOfBoundsException",
        "int envyCycleMember(int,int) IndexOutOfBoundsException NoSuchElementException",
        "boolean wouldSwap(int,int) IndexOutOfBoundsException",
        "int totalWelfare()",
        "int leastWelfare()",
        "long welfareProduct()",
        "int greatestTotalWelfare()",
        "int greatestContiguousWelfare()",
        "int bestLeastWelfare()",
        "int cutCount()",
        "float satisfaction(int) IndexOutOfBoundsException",
        "double meanPieces()",
        "int inconsistencies()",
        "int cutFor(int) IndexOutOfBoundsException",
        "int welfareByKnife(int) IndexOutOfBoundsException",
        "int welfareByRobin(int,int) IndexOutOfBoundsException",
        "int bestFirst()",
        "int give(int,int,int) IndexOutOfBoundsException IllegalArgumentException",
        "int release(int,int) IllegalArgumentException",
        "int swapShares(int,int) IndexOutOfBoundsException IllegalStateException",
        "int setValue(int,int,int) IndexOutOfBoundsException IllegalArgumentException",
        "int divideAndChoose(int,int) IndexOutOfBoundsException IllegalStateException",
        "int movingKnife()",
        "int roundRobin(int) IndexOutOfBoundsException",
        "int rotate(int) IndexOutOfBoundsException IllegalStateException",
        "int runScript() IllegalArgumentException",
        "int undo() IllegalStateException",
        "int save(int) IndexOutOfBoundsException",
        "int restore(int) IndexOutOfBoundsException IllegalStateException",
        "int writeOwners()",
        "int outputByte(int) IndexOutOfBoundsException",
    };

    private static final Check CHECK = new Check("FaceTest");

    public static void main(String[] args) {
        Class<CakeDivision> face = CakeDivision.class;
        CHECK.same("the modifiers", face.getModifiers(), Modifier.PUBLIC | Modifier.FINAL);
        CHECK.same("NONE", CakeDivision.NONE, -1);
        checkMethods(face);
        checkConstructors(face);
        checkFields(face);
        checkInnerNames(face);
        CHECK.finish();
    }

    private static void checkMethods(Class<?> face) {
        List<String> due = new ArrayList<>(List.of(METHODS));
        List<String> got = new ArrayList<>();
        for (Method method : face.getDeclaredMethods()) {
            if (Modifier.isPublic(method.getModifiers())) {
                CHECK.same(method.getName() + " is public and no more", method.getModifiers(), Modifier.PUBLIC);
                got.add(describe(method));
            } else if (!method.isSynthetic()) {
                CHECK.same(method.getName() + " is private", Modifier.isPrivate(method.getModifiers()), true);
            }
        }
        Collections.sort(due);
        Collections.sort(got);
        CHECK.same("the public methods", got.toString(), due.toString());
    }

    private static String describe(Method method) {
        StringBuilder text = new StringBuilder();
        text.append(method.getReturnType().getSimpleName()).append(' ').append(method.getName()).append('(');
        String comma = "";
        for (Class<?> parameter : method.getParameterTypes()) {
            text.append(comma).append(parameter.getSimpleName());
            comma = ",";
        }
        text.append(')');
        for (Class<?> exception : method.getExceptionTypes()) {
            text.append(' ').append(exception.getSimpleName());
        }
        return text.toString();
    }

    private static void checkConstructors(Class<?> face) {
        Constructor<?>[] constructors = face.getDeclaredConstructors();
        CHECK.same("the number of constructors", constructors.length, 1);
        CHECK.same("the constructor", constructors[0].toString(), "public CakeDivision()");
    }

    private static void checkFields(Class<?> face) {
        int open = 0;
        for (Field field : face.getDeclaredFields()) {
            open += Modifier.isPrivate(field.getModifiers()) ? 0 : 1;
        }
        CHECK.same("the number of fields that are not private", open, 1);
    }

    /** No private method bears the name of a public one, inside the inner classes either. */
    private static void checkInnerNames(Class<?> face) {
        Set<String> taken = new TreeSet<>();
        for (Method method : face.getDeclaredMethods()) {
            if (Modifier.isPublic(method.getModifiers())) {
                taken.add(method.getName());
            }
        }
        List<Class<?>> all = new ArrayList<>(List.of(face.getDeclaredClasses()));
        all.add(face);
        for (Class<?> inner : all) {
            for (Method method : inner.getDeclaredMethods()) {
                boolean clashes = taken.contains(method.getName()) && !Modifier.isPublic(method.getModifiers());
                CHECK.same(inner + "." + method.getName() + " bears a public name", clashes, false);
            }
        }
    }
}
