import java.io.IOException;
import java.lang.reflect.Constructor;
import java.lang.reflect.Field;
import java.lang.reflect.Method;
import java.lang.reflect.Modifier;
import java.nio.file.Files;
import java.nio.file.Path;
import java.util.Arrays;
import java.util.Set;
import java.util.TreeSet;
import java.util.regex.Matcher;
import java.util.regex.Pattern;

/** The document's public face, and those rules of LANGUAGE.md that a look at words and members can tell. */
public final class LanguageTest {
    private static final Path SOURCE = Path.of("src/main/java/HilbertBasis.java");
    private static final Set<String> FACE = Set.of(
        "set(int,int)", "sow(int,int)", "weight(int)", "isBalance(int)", "isLeast(int)", "least()", "code(int)",
        "using(int)", "longest()", "balances(int)", "fewest(int)", "ways(int)", "inside(int)", "small()");
    private static final Pattern FORBIDDEN = Pattern.compile(
        "\\b(package|import|float|double|String|Math|Integer|Long|System|Arrays|Object|null|throw|throws|try|catch"
        + "|finally|synchronized|assert|instanceof|record|enum|interface|var)\\b|->|::|\\]\\s*\\[");
    private static final Pattern FIELD_ARRAY = Pattern.compile(
        "private final \\w+\\[\\] \\w+ = new \\w+\\[[A-Z0-9_]+\\];");

    public static void main(String[] args) throws IOException {
        face();
        fields();
        words();
        Check.finish();
    }

    private static void face() {
        Check.holds("the class is public and final",
            Modifier.toString(HilbertBasis.class.getModifiers()).equals("public final"));
        Check.holds("no nested class", HilbertBasis.class.getDeclaredClasses().length == 0);
        Constructor<?>[] constructors = HilbertBasis.class.getDeclaredConstructors();
        Check.holds("one constructor, public and without arguments", constructors.length == 1
            && Modifier.isPublic(constructors[0].getModifiers()) && constructors[0].getParameterCount() == 0);
        Set<String> open = new TreeSet<>();
        Set<String> openNames = new TreeSet<>();
        for (Method method : HilbertBasis.class.getDeclaredMethods()) {
            if (!Modifier.isPrivate(method.getModifiers())) {
                open.add(signature(method));
                openNames.add(method.getName());
                Check.holds(signature(method) + " is public, not static, and answers an int",
                    method.getModifiers() == Modifier.PUBLIC && method.getReturnType() == int.class);
            }
        }
        Check.holds("the methods of the document and no other: " + open, open.equals(FACE));
        for (Method method : HilbertBasis.class.getDeclaredMethods()) {
            Check.holds(signature(method) + " bears no public method's name",
                Modifier.isPublic(method.getModifiers()) || !openNames.contains(method.getName()));
            Check.holds(signature(method) + " takes at most seven", method.getParameterCount() <= 7);
        }
    }

    private static String signature(Method method) {
        String types = Arrays.toString(Arrays.stream(method.getParameterTypes()).map(Class::getName).toArray());
        return method.getName() + "(" + types.substring(1, types.length() - 1).replace(" ", "") + ")";
    }

    private static void fields() {
        for (Field field : HilbertBasis.class.getDeclaredFields()) {
            int modifiers = field.getModifiers();
            Class<?> type = field.getType();
            Check.holds(field.getName() + " is private", Modifier.isPrivate(modifiers));
            Check.holds(field.getName() + " holds whole numbers or booleans",
                type.isPrimitive() || type.isArray() && type.getComponentType().isPrimitive());
            Check.holds(field.getName() + ", if static, is a constant number",
                !Modifier.isStatic(modifiers)
                || Modifier.isFinal(modifiers) && (type == int.class || type == long.class));
        }
    }

    private static void words() throws IOException {
        String code = Files.readString(SOURCE).replaceAll("(?s)/\\*.*?\\*/", "").replaceAll("//[^\n]*", "");
        Matcher matcher = FORBIDDEN.matcher(code);
        while (matcher.find()) {
            Check.holds("no word " + matcher.group(), false);
        }
        String rest = FIELD_ARRAY.matcher(code).replaceAll("");
        Check.holds("arrays are made in fields alone", !Pattern.compile("\\bnew\\b").matcher(rest).find());
    }
}
