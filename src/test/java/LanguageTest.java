import java.io.IOException;
import java.lang.reflect.Executable;
import java.lang.reflect.Field;
import java.lang.reflect.Member;
import java.lang.reflect.Method;
import java.lang.reflect.Modifier;
import java.nio.file.Files;
import java.nio.file.Path;
import java.util.ArrayList;
import java.util.Arrays;
import java.util.List;
import java.util.Set;
import java.util.TreeSet;
import java.util.regex.Matcher;
import java.util.regex.Pattern;

/** The document's face, and those of LANGUAGE.md's rules that the class and its source show; takes the source's path. */
public final class LanguageTest {
    private static final Checks CHECKS = new Checks();
    private static final Class<?> FACE = SharedEndings.class;
    private static final String[] METHODS = {
        "public boolean SharedEndings.type(char)",
        "public int SharedEndings.wipe()",
        "public int SharedEndings.add() throws java.lang.IllegalStateException",
        "public boolean SharedEndings.remove()",
        "public int SharedEndings.words()",
        "public int SharedEndings.word(int) throws java.lang.IndexOutOfBoundsException",
        "public int SharedEndings.rank()",
        "public int SharedEndings.starting()",
        "public int SharedEndings.longest()",
        "public int SharedEndings.states()",
        "public int SharedEndings.edges()",
        "public int SharedEndings.alike()",
        "public int SharedEndings.near(int) throws java.lang.IllegalArgumentException",
        "public int SharedEndings.scan()",
        "public int SharedEndings.found(int,int)"
            + " throws java.lang.IndexOutOfBoundsException,java.lang.IllegalArgumentException",
        "public long SharedEndings.splits()",
        "public int SharedEndings.split()",
        "public int SharedEndings.length()",
        "public char SharedEndings.charAt(int)",
    };
    private static final String[] REFUSED = {
        "->", "::", "\\bfinally\\b", "\\bsynchronized\\b", "\\bassert\\b", "\\bstatic\\s*\\{", "\\bpackage\\b",
        "\\btry\\b", "\\bprotected\\b", "\\bMap\\b", "\\bSet\\b", "\\bRandom\\b", "\\bThread\\b", "currentTimeMillis",
        "nanoTime", "Exact\\(", "\\bgetMessage\\b", "\\bhashCode\\b", "\\btoString\\b", "[^\\x00-\\x7f]",
    };

    private LanguageTest() {
    }

    public static void main(String[] args) throws IOException {
        face();
        hidden();
        names();
        sizes();
        staticFields();
        source(Files.readString(Path.of(args[0])));
        CHECKS.end();
    }

    private static void face() {
        CHECKS.due("the class's modifiers", Modifier.toString(FACE.getModifiers()), "public final");
        Set<String> methods = new TreeSet<>();
        for (Method method : FACE.getDeclaredMethods()) {
            if (!Modifier.isPrivate(method.getModifiers())) {
                methods.add(method.toGenericString());
            }
        }
        CHECKS.due("methods", methods.toString(), new TreeSet<>(Arrays.asList(METHODS)).toString());
        CHECKS.due("constructors", Arrays.toString(FACE.getDeclaredConstructors()), "[public SharedEndings()]");
        CHECKS.due("superclass", FACE.getSuperclass().getName(), "java.lang.Object");
        CHECKS.due("interfaces", FACE.getInterfaces().length, 0);
    }

    private static void hidden() {
        for (Field field : FACE.getDeclaredFields()) {
            boolean isConstant = field.toString().equals("public static final int SharedEndings.NONE");
            CHECKS.due(field + " is private", isConstant || Modifier.isPrivate(field.getModifiers()), true);
        }
        for (Class<?> inside : FACE.getDeclaredClasses()) {
            int modifiers = inside.getModifiers();
            boolean isOpen = Modifier.isPublic(modifiers) || Modifier.isProtected(modifiers);
            CHECKS.due(inside + " is static and not open", Modifier.isStatic(modifiers) && !isOpen, true);
        }
    }

    private static void names() {
        Set<String> taken = new TreeSet<>();
        for (String method : METHODS) {
            taken.add(method.replaceAll(".*SharedEndings\\.(\\w+)\\(.*", "$1"));
        }
        CHECKS.due("names of the face", taken.size(), METHODS.length);
        for (Class<?> each : classes()) {
            for (Method method : each.getDeclaredMethods()) {
                boolean isFace = each == FACE && Modifier.isPublic(method.getModifiers());
                CHECKS.due(method + " bears a name of its own", isFace || !taken.contains(method.getName()), true);
            }
        }
    }

    private static void sizes() {
        CHECKS.due("at most twelve classes", classes().size() <= 12, true);
        for (Class<?> each : classes()) {
            long fields = Arrays.stream(each.getDeclaredFields()).filter(f -> !isStatic(f)).count();
            CHECKS.due(each + " has at most twenty fields", fields <= 20, true);
            List<Executable> members = new ArrayList<>(Arrays.asList(each.getDeclaredMethods()));
            members.addAll(Arrays.asList(each.getDeclaredConstructors()));
            for (Executable member : members) {
                CHECKS.due(member + " takes at most seven parameters", member.getParameterCount() <= 7, true);
            }
        }
    }

    private static void staticFields() {
        for (Class<?> each : classes()) {
            for (Field field : each.getDeclaredFields()) {
                boolean isPlain = field.getType().isPrimitive() && Modifier.isFinal(field.getModifiers());
                CHECKS.due(field + " holds no state of the class", !isStatic(field) || isPlain, true);
            }
        }
    }

    private static void source(String text) {
        for (String refused : REFUSED) {
            CHECKS.due("source has " + refused, Pattern.compile(refused).matcher(text).find(), false);
        }
        Matcher imports = Pattern.compile("import ([^;]*);").matcher(text);
        while (imports.find()) {
            CHECKS.due("import", imports.group(1), "java.util.Arrays");
        }
        Matcher bodies = Pattern.compile("(?ms)^( +)[^\\n]*\\) [^\\n]*\\{$.*?^\\1\\}$").matcher(text);
        while (bodies.find()) {
            CHECKS.due(bodies.group().trim(), bodies.group().lines().count() <= 60, true);
        }
    }

    private static List<Class<?>> classes() {
        List<Class<?>> classes = new ArrayList<>(Arrays.asList(FACE.getDeclaredClasses()));
        classes.add(FACE);
        return classes;
    }

    private static boolean isStatic(Member member) {
        return Modifier.isStatic(member.getModifiers());
    }
}
