import java.io.IOException;
import java.lang.reflect.Constructor;
import java.lang.reflect.Field;
import java.lang.reflect.Method;
import java.lang.reflect.Modifier;
import java.nio.file.Files;
import java.nio.file.Path;
import java.util.Arrays;
import java.util.HashMap;
import java.util.Map;
import java.util.Set;
import java.util.TreeSet;
import java.util.regex.Matcher;
import java.util.regex.Pattern;

/** The document's public face, and those rules of LANGUAGE.md that a look at words, members and calls can tell. */
public final class LanguageTest {
    private static final Path SOURCE = Path.of("src/main/java/HilbertBasis.java");
    private static final Set<String> FACE = Set.of(
        "set(int,int)", "sow(int,int)", "weight(int)", "isBalance(int)", "isLeast(int)", "least()", "code(int)",
        "using(int)", "longest()", "balances(int)", "fewest(int)", "ways(int)", "inside(int)", "small()");
    private static final Pattern FORBIDDEN = Pattern.compile(
        "\\b(package|import|float|double|String|Math|Integer|Long|System|Arrays|Object|null|throw|throws|try|catch"
        + "|finally|synchronized|assert|instanceof|record|enum|interface|var)\\b|->|::|\\]\\s*\\[");
    private static final Pattern FIELD_ARRAY = Pattern.compile(
        "private final \\w+\\[\\] \\w+ = new \\w+\\[[A-Z0-9_]+\\];");
    // As the source is laid out: a method's head stands four spaces in, and so does its last brace.
    private static final Pattern METHOD = Pattern.compile(
        "(?ms)^    (?:public|private) [\\w ]*?(\\w+)\\([^()]*\\) \\{\\n(.*?)^    \\}$");
    private static final Pattern OPENING = Pattern.compile("(\\w*) ?\\(|\\)");
    private static final int LONGEST_METHOD = 60;
    private static final int DEEPEST_CALL = 6;
    private static final int MOST_FIELDS = 40;

    public static void main(String[] args) throws IOException {
        face();
        fields();
        String code = withoutComments(Files.readString(SOURCE));
        words(code);
        Map<String, String> bodies = bodies(code);
        depthOfCalls(bodies);
        callsInArguments(bodies);
        Check.finish();
    }

    private static void face() {
        Check.holds("the class is public and final",
            Modifier.toString(HilbertBasis.class.getModifiers()).equals("public final"));
        Check.holds("it stands under no other class or interface",
            HilbertBasis.class.getSuperclass() == Object.class && HilbertBasis.class.getInterfaces().length == 0);
        Check.holds("no nested class", HilbertBasis.class.getDeclaredClasses().length == 0);
        Constructor<?>[] constructors = HilbertBasis.class.getDeclaredConstructors();
        Check.holds("one constructor, public and without arguments", constructors.length == 1
            && Modifier.isPublic(constructors[0].getModifiers()) && constructors[0].getParameterCount() == 0);
        Set<String> open = new TreeSet<>();
        Set<String> openNames = new TreeSet<>();
        for (Method method : HilbertBasis.class.getDeclaredMethods()) {
            if (!Modifier.isPrivate(method.getModifiers())) {
                open.add(signature(method));
                openNames.add(method.getName());
                Check.holds(signature(method) + " is public, not static, and answers an int",
                    method.getModifiers() == Modifier.PUBLIC && method.getReturnType() == int.class);
            }
        }
        Check.holds("the methods of the document and no other: " + open, open.equals(FACE));
        for (Method method : HilbertBasis.class.getDeclaredMethods()) {
            Check.holds(signature(method) + " bears no public method's name",
                Modifier.isPublic(method.getModifiers()) || !openNames.contains(method.getName()));
            Check.holds(signature(method) + " takes at most seven", method.getParameterCount() <= 7);
        }
    }

    private static String signature(Method method) {
        String types = Arrays.toString(Arrays.stream(method.getParameterTypes()).map(Class::getName).toArray());
        return method.getName() + "(" + types.substring(1, types.length() - 1).replace(" ", "") + ")";
    }

    private static void fields() {
        long held = Arrays.stream(HilbertBasis.class.getDeclaredFields())
            .filter(field -> !Modifier.isStatic(field.getModifiers())).count();
        Check.holds(held + " fields beside the constants", held <= MOST_FIELDS);
        for (Field field : HilbertBasis.class.getDeclaredFields()) {
            int modifiers = field.getModifiers();
            Class<?> type = field.getType();
            Check.holds(field.getName() + " is private", Modifier.isPrivate(modifiers));
            Check.holds(field.getName() + " holds whole numbers or booleans",
                type.isPrimitive() || type.isArray() && type.getComponentType().isPrimitive());
            Check.holds(field.getName() + ", if static, is a constant number",
                !Modifier.isStatic(modifiers)
                || Modifier.isFinal(modifiers) && (type == int.class || type == long.class));
        }
    }

    private static String withoutComments(String source) {
        return source.replaceAll("(?s)/\\*.*?\\*/", "").replaceAll("//[^\n]*", "");
    }

    private static void words(String code) {
        Matcher matcher = FORBIDDEN.matcher(code);
        while (matcher.find()) {
            Check.holds("no word " + matcher.group(), false);
        }
        String rest = FIELD_ARRAY.matcher(code).replaceAll("");
        Check.holds("arrays are made in fields alone", !Pattern.compile("\\bnew\\b").matcher(rest).find());
    }

    /** What stands between the braces of each method and of the constructor, by name. */
    private static Map<String, String> bodies(String code) {
        Map<String, String> bodies = new HashMap<>();
        Matcher method = METHOD.matcher(code);
        while (method.find()) {
            bodies.put(method.group(1), method.group(2));
            Check.holds(method.group(1) + " is short", method.group(2).lines().count() <= LONGEST_METHOD);
        }
        // A method that the pattern does not see would go unlooked at.
        Check.due("methods found in the source", bodies.size(), HilbertBasis.class.getDeclaredMethods().length + 1);
        return bodies;
    }

    /** A recursion would make each round of this find deeper calls, without end. */
    private static void depthOfCalls(Map<String, String> bodies) {
        Map<String, Integer> depths = new HashMap<>();
        bodies.keySet().forEach(name -> depths.put(name, 1));
        for (int round = 0; round <= DEEPEST_CALL; round++) {
            for (String caller : bodies.keySet()) {
                Matcher opening = OPENING.matcher(bodies.get(caller));
                while (opening.find()) {
                    int below = depths.getOrDefault(opening.group(1), 0);
                    depths.merge(caller, below + 1, Math::max);
                }
            }
        }
        depths.forEach((name, depth) -> Check.holds(name + " calls at most six deep", depth <= DEEPEST_CALL));
    }

    private static void callsInArguments(Map<String, String> bodies) {
        for (String name : bodies.keySet()) {
            // One mark for each open bracket: c for one of a call's, o for any other.
            StringBuilder open = new StringBuilder();
            Matcher bracket = OPENING.matcher(bodies.get(name));
            while (bracket.find()) {
                if (bracket.group().equals(")")) {
                    open.setLength(open.length() - 1);
                } else {
                    boolean call = bodies.containsKey(bracket.group(1));
                    Check.holds(name + " has no call in the arguments of another: " + bracket.group(),
                        !call || open.indexOf("c") < 0);
                    open.append(call ? 'c' : 'o');
                }
            }
        }
    }
}
