import java.util.LinkedHashMap;
import java.util.Map;
import java.util.Set;
import java.util.TreeSet;
import java.util.regex.Matcher;
import java.util.regex.Pattern;

/** What rules 3, 8 and 10 of LANGUAGE.md ask of methods, calls and loops, as far as the source shows it. */
public final class MethodsTest extends Checks {
    private static final int GREATEST_LENGTH = 60;
    private static final int GREATEST_DEPTH = 6;

    private static final Pattern METHOD =
        Pattern.compile("(?ms)^    (?:public|private) [^=;{}]*?(\\w+)\\([^)]*\\) \\{\n(.*?)^    \\}\n");
    /** A blank stands between if, for or switch and its bracket, none between a method's name and its own. */
    private static final Pattern CALL = Pattern.compile("(\\w+)\\(");
    private static final Pattern LOOP = Pattern.compile("\\bfor \\((.*)\\) \\{\n");
    private static final Pattern COUNTED =
        Pattern.compile("int (\\w+) = [^;]+; (.*\\b\\1 (?:<=? [^;]+; \\1\\+\\+|>=? [^;]+; \\1--))");

    public static void main(String[] args) throws Exception {
        testing("LANGUAGE.md");
        Map<String, String> bodies = bodiesIn(Source.withoutComments());
        for (Map.Entry<String, String> method : bodies.entrySet()) {
            testing("LANGUAGE.md, " + method.getKey());
            due("lines", Math.max(GREATEST_LENGTH, method.getValue().lines().count()), GREATEST_LENGTH);
            callsAreKnown(method.getValue(), bodies.keySet());
            callsStandAlone(method.getValue());
            loopsEnd(method.getValue());
            due("calls", Math.max(GREATEST_DEPTH, depthOf(method.getKey(), bodies, Set.of())), GREATEST_DEPTH);
        }
        conclude("methods, calls and loops keep to the language");
    }

    private static Map<String, String> bodiesIn(String code) {
        Map<String, String> bodies = new LinkedHashMap<>();
        Matcher method = METHOD.matcher(code);
        while (method.find()) {
            bodies.put(method.group(1), method.group(2));
        }
        int constructors = SegmentShelf.class.getDeclaredConstructors().length;
        due("methods seen", bodies.size(), SegmentShelf.class.getDeclaredMethods().length + constructors);
        return bodies;
    }

    private static Set<String> callsIn(String code) {
        Set<String> names = new TreeSet<>();
        Matcher call = CALL.matcher(code);
        while (call.find()) {
            names.add(call.group(1));
        }
        return names;
    }

    private static void callsAreKnown(String body, Set<String> methods) {
        for (String name : callsIn(body)) {
            due(name + " is a method of the class:", methods.contains(name), true);
        }
    }

    private static void callsStandAlone(String body) {
        Matcher call = CALL.matcher(body);
        while (call.find()) {
            String inside = upToEnd(body, call.end(), '(', ')');
            due("a call in (" + inside + "):", CALL.matcher(inside).find(), false);
        }
    }

    private static void loopsEnd(String body) {
        due("a loop without a counter:", Pattern.compile("\\b(while|do)\\b").matcher(body).find(), false);
        int loops = body.split("\\bfor\\b", -1).length - 1;
        Matcher loop = LOOP.matcher(body);
        while (loop.find()) {
            loops--;
            Matcher head = COUNTED.matcher(loop.group(1));
            boolean counted = head.matches();
            due("for (" + loop.group(1) + ") counts against a bound:", counted, true);
            if (counted) {
                String inside = upToEnd(body, loop.end(), '{', '}');
                keepsItsBound(inside, head.group(2));
            }
        }
        due("loops of another form", loops, 0);
    }

    /** Neither the counter nor what it is compared with may be set in the loop itself. */
    private static void keepsItsBound(String inside, String condition) {
        Matcher name = Pattern.compile("[a-z]\\w*").matcher(condition);
        while (name.find()) {
            Pattern set = Pattern.compile("\\b" + name.group() + "(\\+\\+|--| [-+*/|&]?= )");
            due("for (.. " + condition + ") sets " + name.group() + ":", set.matcher(inside).find(), false);
        }
    }

    private static int depthOf(String name, Map<String, String> bodies, Set<String> above) {
        due("recursion:", above.contains(name), false);
        if (above.contains(name) || !bodies.containsKey(name)) {
            return 0;
        }
        Set<String> here = new TreeSet<>(above);
        here.add(name);
        int deepest = 0;
        for (String called : callsIn(bodies.get(name))) {
            deepest = Math.max(deepest, depthOf(called, bodies, here));
        }
        return deepest + 1;
    }

    /** What stands between an opening sign, behind which start is, and the sign that closes it. */
    private static String upToEnd(String code, int start, char opening, char closing) {
        int open = 1;
        int end = start;
        while (end < code.length() && open > 0) {
            char sign = code.charAt(end);
            open += sign == opening ? 1 : sign == closing ? -1 : 0;
            end++;
        }
        return code.substring(start, end - 1);
    }
}
