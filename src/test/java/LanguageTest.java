import java.lang.reflect.Constructor;
import java.lang.reflect.Field;
import java.lang.reflect.Method;
import java.lang.reflect.Modifier;
import java.util.Arrays;
import java.util.Set;
import java.util.TreeSet;
import java.util.regex.Matcher;
import java.util.regex.Pattern;

/** The public face of the class, the words that LANGUAGE.md leaves out, and calls that must never throw. */
public final class LanguageTest {
    private static final Set<String> FACE = Set.of(
        "int REFUSED", "int FULL", "int WRONG", "SegmentShelf()",
        "int word(int)", "int add(int)", "int flush()", "boolean delete(int)", "int settle()", "int held(int)",
        "int segment(int, int)", "int about(int, int)", "int at(int, int)", "int token(int)",
        "int search(int, boolean)", "int like(int, int)", "int hit(int, int)", "int share(int)", "int watch(int)",
        "int next(int)");

    private static int wrong;

    public static void main(String[] args) throws Exception {
        face();
        fields();
        source();
        neverThrows();
        System.out.println(wrong == 0 ? "the class keeps to its language" : wrong + " faults");
        if (wrong != 0) {
            System.exit(1);
        }
    }

    private static void require(boolean holds, String fault) {
        if (!holds) {
            wrong++;
            System.out.println(fault);
        }
    }

    private static String parameters(Class<?>[] types) {
        String listed = Arrays.toString(types);
        return "(" + listed.substring(1, listed.length() - 1) + ")";
    }

    private static void face() {
        Class<?> type = SegmentShelf.class;
        require(type.getModifiers() == (Modifier.PUBLIC | Modifier.FINAL), "the class is not public and final");
        require(type.getDeclaredClasses().length == 0, "there is a nested class");
        Set<String> seen = new TreeSet<>();
        Set<String> hidden = new TreeSet<>();
        for (Constructor<?> made : type.getDeclaredConstructors()) {
            seen.add(made.getName() + parameters(made.getParameterTypes()));
            require(Modifier.isPublic(made.getModifiers()), "a constructor is not public");
        }
        for (Method method : type.getDeclaredMethods()) {
            String told = method.getReturnType() + " " + method.getName() + parameters(method.getParameterTypes());
            if (Modifier.isPrivate(method.getModifiers())) {
                hidden.add(method.getName());
            } else {
                seen.add(told);
                require(method.getModifiers() == Modifier.PUBLIC, told + " is not just public");
            }
            require(method.getParameterCount() <= 7, told + " has more than seven parameters");
        }
        for (Field field : type.getDeclaredFields()) {
            if (!Modifier.isPrivate(field.getModifiers())) {
                seen.add(field.getType() + " " + field.getName());
            }
        }
        require(seen.equals(FACE), "the public face is " + seen);
        for (String name : hidden) {
            require(FACE.stream().noneMatch(told -> told.contains(" " + name + "(")), "private " + name);
        }
    }

    private static void fields() {
        Set<Class<?>> numbers = Set.of(int.class, long.class, short.class, byte.class, char.class, boolean.class);
        int own = 0;
        for (Field field : SegmentShelf.class.getDeclaredFields()) {
            Class<?> type = field.getType();
            if (Modifier.isStatic(field.getModifiers())) {
                require(Modifier.isFinal(field.getModifiers()) && (type == int.class || type == long.class),
                    "static " + field.getName());
            } else {
                own++;
                require(numbers.contains(type.isArray() ? type.getComponentType() : type), "type of " + field.getName());
            }
        }
        require(own <= 40, own + " fields");
    }

    private static void source() throws Exception {
        String code = Source.withoutComments();
        Matcher foreign = Pattern.compile("\\b(import|package|throw|throws|try|catch|finally|synchronized|assert|instanceof"
            + "|null|float|double|String|Math|Integer|Long|System|Arrays|Object|var|enum|record|interface|this)\\b"
            + "|->|::|\"|\\.(?!\\d)").matcher(code);
        while (foreign.find()) {
            require(false, "not in the language: " + foreign.group());
        }
        String methods = code.substring(code.indexOf("public SegmentShelf()"));
        require(!methods.contains("new "), "an array or object is made in a method");
        Matcher made = Pattern.compile("new ([^;]*);").matcher(code);
        while (made.find()) {
            require(made.group(1).matches("(int|boolean)\\[[A-Z_]+\\]"), "made: " + made.group(1));
        }
    }

    private static void neverThrows() {
        int[] odd = {Integer.MIN_VALUE, Integer.MIN_VALUE + 1, -1, 0, 1, 2, 3, 4, 7, 8, 9, 10, 11, 12, 13, 31, 32, 33, 99,
            100, 999, 1000, 1099, 10999, 11000, Integer.MAX_VALUE};
        SegmentShelf x = new SegmentShelf();
        long state = 1;
        for (int i = 0; i < 300_000; i++) {
            state = state * 6364136223846793005L + 1442695040888963407L;
            int pick = (int) (state >>> 33);
            int a = odd[pick % odd.length];
            int b = odd[pick / 32 % odd.length];
            call(x, pick / 1024 % 20, a, b);
        }
    }

    private static void call(SegmentShelf x, int which, int a, int b) {
        switch (which) {
            case 0 -> x.flush();
            case 1 -> x.delete(a);
            case 2 -> x.held(a);
            case 3 -> x.segment(a, b);
            case 4 -> x.about(a, b);
            case 5 -> x.at(a, b);
            case 6 -> x.search(a, b > 3);
            case 7 -> x.like(a, b);
            case 8 -> x.hit(a, b);
            case 9 -> x.share(a);
            case 10 -> x.watch(a);
            case 11 -> x.next(a);
            case 12, 13, 14 -> x.token(a);
            case 15, 16 -> x.word(a);
            case 17, 18 -> deleteOld(x, x.add(a));
            default -> settleSometimes(x, a);
        }
    }

    private static void deleteOld(SegmentShelf x, int number) {
        if (number >= 20) {
            x.delete(number - 20);
        }
    }

    private static void settleSometimes(SegmentShelf x, int a) {
        if (a == 0) {
            x.settle();
        }
    }
}
