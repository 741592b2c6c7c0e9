import java.lang.reflect.InvocationTargetException;
import java.lang.reflect.Method;
import java.lang.reflect.Modifier;
import java.util.ArrayList;
import java.util.Arrays;
import java.util.Comparator;
import java.util.List;

/** Puts the same calls, 512 on each object, to the class and to ReferenceCake: all promises together. */
public final class ReferenceTest {
    private static final int OBJECTS = 600;
    private static final int CALLS = 512;
    private static final int MOST_FAULTS = 10;
    private static final String[] VERBS = {"give", "free", "swap", "value", "divide", "knife", "robin", "rotate"};
    private static final String SPOILS = "abz059; \n\t?`{/:A;;  sibling";

    private static final List<Method> METHODS = new ArrayList<>();
    private static long seed = 20261119L;
    private static int answers = 0;
    private static int faults = 0;

    private final CakeDivision cake = new CakeDivision();
    private final ReferenceCake reference = new ReferenceCake();
    private final StringBuilder calls = new StringBuilder();
    private int left = CALLS;

    public static void main(String[] args) throws ReflectiveOperationException {
        for (Method method : CakeDivision.class.getDeclaredMethods()) {
            if (Modifier.isPublic(method.getModifiers())) {
                METHODS.add(method);
            }
        }
        METHODS.sort(Comparator.comparing(Method::getName));
        for (int object = 0; object < OBJECTS && faults < MOST_FAULTS; object++) {
            new ReferenceTest().run();
        }
        System.out.println("ReferenceTest: " + answers + " answers compared, " + faults + " differ");
        System.exit(faults > 0 || answers == 0 ? 1 : 0);
    }

    /** A number from 0 to bound - 1; the same row of numbers in every run of the test. */
    private static int pick(int bound) {
        seed = seed * 6364136223846793005L + 1442695040888963407L;
        return (int) ((seed >>> 33) % bound);
    }

    private void run() throws ReflectiveOperationException {
        int faultsBefore = faults;
        while (left > 0 && faults == faultsBefore) {
            int kind = pick(100);
            if (kind < 3) {
                put(pick(3) > 0 ? setup() : spoil(setup()), "load");
            } else if (kind < 8) {
                put(pick(3) > 0 ? script() : spoil(script()), "runScript");
            } else if (kind < 9) {
                put(name(), "findSibling");
            } else {
                call(METHODS.get(pick(METHODS.size())));
            }
        }
    }

    private void call(Method method) throws ReflectiveOperationException {
        Object[] arguments = new Object[method.getParameterCount()];
        for (int index = 0; index < arguments.length; index++) {
            arguments[index] = argument(method.getName(), index);
        }
        compare(method.getName(), arguments);
    }

    private void compare(String name, Object... arguments) throws ReflectiveOperationException {
        if (left == 0) {
            return;
        }
        left--;
        Class<?>[] types = new Class<?>[arguments.length];
        Arrays.fill(types, int.class);
        String got = answer(cake, CakeDivision.class.getMethod(name, types), arguments);
        String due = answer(reference, ReferenceCake.class.getMethod(name, types), arguments);
        calls.append(name).append(Arrays.toString(arguments)).append(" = ").append(due).append('\n');
        answers++;
        if (!got.equals(due)) {
            faults++;
            System.out.println(calls + "answered " + got);
        }
    }

    private static String answer(Object object, Method method, Object[] arguments)
            throws ReflectiveOperationException {
        try {
            return String.valueOf(method.invoke(object, arguments));
        } catch (InvocationTargetException thrown) {
            Class<?> kind = thrown.getCause().getClass();
            // The reference may let a text throw, where the class must throw its own exception.
            return kind == StringIndexOutOfBoundsException.class && object instanceof ReferenceCake
                ? IndexOutOfBoundsException.class.getName() : kind.getName();
        }
    }

    /** Mostly a number that means something, seldom one that is out of range. */
    private int argument(String method, int index) {
        int kind = pick(40);
        if (kind == 0) {
            return new int[] {-1, 24, 25, 6, Integer.MIN_VALUE, Integer.MAX_VALUE}[pick(6)];
        }
        if (method.equals("append")) {
            return 0x20202020;
        }
        if (method.equals("truncate")) {
            return pick(3) == 0 ? pick(60) : 0;
        }
        if (method.equals("save") || method.equals("restore")) {
            return pick(2);
        }
        if (method.equals("mark") && index == 2) {
            return 1 + pick(24);
        }
        boolean isCell = method.equals("release") || method.equals("owner")
            || index > 0 && (method.equals("give") || method.equals("worth"))
            || index == 1 && (method.equals("value") || method.equals("setValue") || method.equals("mark"));
        int bound = isCell ? reference.cellCount() : reference.siblingCount();
        if (index == 2 && method.equals("setValue") || method.equals("outputByte")) {
            bound = 10;
        }
        return pick(bound + (kind == 1 ? 1 : 0));
    }

    private void put(String text, String reader) throws ReflectiveOperationException {
        compare("truncate", 0);
        for (int from = 0; from < text.length() && from < 600; from += 20) {
            Object[] packed = new Object[5];
            for (int part = 0; part < 5; part++) {
                packed[part] = pack(text, from + 4 * part);
            }
            compare("append", packed);
        }
        compare("truncate", Math.min(text.length(), 600));
        compare(reader);
        compare("errorCode");
        compare("errorPosition");
        compare("writeOwners");
    }

    private static int pack(String text, int from) {
        int packed = 0;
        for (int index = from; index < from + 4; index++) {
            packed = packed << 8 | (index < text.length() ? text.charAt(index) : 'x');
        }
        return packed;
    }

    private static String setup() {
        int cells = pick(4) == 0 ? 1 + pick(24) : 1 + pick(9);
        int siblings = 1 + pick(pick(10) == 0 ? 7 : 6);
        int greatest = 1 + pick(10);
        StringBuilder text = new StringBuilder("cake ").append(cells).append(';');
        for (int sibling = 0; sibling < siblings; sibling++) {
            text.append("sibling ").append(pick(30) == 0 ? word() : String.valueOf((char) ('a' + sibling)));
            for (int cell = 0; cell < cells; cell++) {
                text.append(' ').append(pick(greatest));
            }
            text.append(pick(4) == 0 ? " ;\n" : ";");
        }
        return text.toString();
    }

    private static String word() {
        String[] words = {"sibling", "cake", "abcdef", "abcdefg", "abcdefgh", "abcdefghi", "a", "b", "knife"};
        return words[pick(words.length)];
    }

    private String script() {
        StringBuilder text = new StringBuilder();
        int commands = pick(20) == 0 ? 25 + pick(8) : pick(6);
        for (int command = 0; command < commands; command++) {
            String verb = commands > 24 ? "knife" : VERBS[pick(VERBS.length)];
            text.append(verb);
            String parameters = parametersOf(verb);
            for (int index = 0; index < parameters.length(); index++) {
                text.append(' ').append(parameters.charAt(index) == 'n' ? name() : number(verb, index));
            }
            text.append(pick(4) == 0 ? " ; " : ";");
        }
        return text.toString();
    }

    private static String parametersOf(String verb) {
        if (verb.equals("give") || verb.equals("value")) {
            return "n##";
        }
        if (verb.equals("swap") || verb.equals("divide")) {
            return "nn";
        }
        return verb.equals("free") ? "##" : verb.equals("knife") ? "" : "n";
    }

    private int number(String verb, int index) {
        if (verb.equals("value") && index == 2) {
            return pick(pick(10) == 0 ? 100 : 10);
        }
        boolean isLast = index == parametersOf(verb).length() - 1;
        int half = reference.cellCount() / 2;
        return isLast ? half + pick(reference.cellCount() - half + pick(2)) : pick(half + 1);
    }

    private String name() {
        if (pick(30) == 0) {
            return word();
        }
        StringBuilder name = new StringBuilder();
        int sibling = pick(reference.siblingCount());
        try {
            for (int index = 0; index < 6; index++) {
                name.append((char) reference.nameByte(sibling, index));
            }
        } catch (IndexOutOfBoundsException atTheEnd) {
            return name.toString();
        }
        return name.toString();
    }

    /** Takes out, puts in or replaces something, or cuts the text. */
    private static String spoil(String text) {
        int at = pick(text.length() + 1);
        int to = Math.min(text.length(), at + pick(3));
        int from = pick(SPOILS.length());
        String put = SPOILS.substring(from, Math.min(SPOILS.length(), from + pick(3)));
        return pick(5) == 0 ? text.substring(0, at) : text.substring(0, at) + put + text.substring(to);
    }
}
