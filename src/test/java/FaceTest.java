import java.lang.reflect.Constructor;
import java.lang.reflect.Field;
import java.lang.reflect.Method;
import java.lang.reflect.Modifier;
import java.nio.file.Files;
import java.nio.file.Path;
import java.util.Map;
import java.util.Set;
import java.util.TreeMap;
import java.util.TreeSet;
import java.util.regex.Matcher;
import java.util.regex.Pattern;

/** The public face and the constants of the document, and the plainest rules of LANGUAGE.md. */
public final class FaceTest {
    private static final Checks C = new Checks("FaceTest");
    private static final String[] NO_NUMBER = {"wipe", "sow", "bound", "two", "game", "last"};
    private static final String[] ONE_NUMBER = {
        "say", "fault", "ears", "begin", "spill", "judge", "way", "longest", "all", "best", "where", "goesOn",
        "image", "restore", "told"
    };
    private static final String[] TWO_NUMBERS = {"field", "storm", "drawn"};

    public static void main(String[] args) throws Exception {
        constants();
        methods();
        constructorAndClass();
        sizes();
        wordsOfTheSource(args.length > 0 ? args[0] : "src/main/java/CornWay.java");
        C.end();
    }

    private static void constants() throws Exception {
        Map<String, Integer> due = new TreeMap<>(Map.of(
            "UNKNOWN", -1, "OUTSIDE", -2, "STATE", -3, "FULL", -4, "NO", -5, "NONE", -6));
        for (Field f : CornWay.class.getDeclaredFields()) {
            if (due.containsKey(f.getName())) {
                C.due(f.getName(), f.getInt(null), due.remove(f.getName()));
                C.due("how " + f.getName() + " is told", f.getModifiers(),
                    Modifier.PUBLIC | Modifier.STATIC | Modifier.FINAL);
            } else {
                C.holds(f.getName() + " is private", Modifier.isPrivate(f.getModifiers()));
                C.holds(f.getName() + ", if static, is final",
                    !Modifier.isStatic(f.getModifiers()) || Modifier.isFinal(f.getModifiers()));
            }
        }
        C.holds("all constants are there: " + due, due.isEmpty());
    }

    private static void methods() {
        Map<String, Integer> due = new TreeMap<>();
        for (String name : NO_NUMBER) {
            due.put(name, 0);
        }
        for (String name : ONE_NUMBER) {
            due.put(name, 1);
        }
        for (String name : TWO_NUMBERS) {
            due.put(name, 2);
        }
        Set<String> names = new TreeSet<>(due.keySet());
        for (Method m : CornWay.class.getDeclaredMethods()) {
            if (Modifier.isPrivate(m.getModifiers())) {
                C.holds(m.getName() + " has no name of the face", !names.contains(m.getName()));
                continue;
            }
            C.holds(m.getName() + " is of the face", due.containsKey(m.getName()));
            C.due("how " + m.getName() + " is told", m.getModifiers(), Modifier.PUBLIC);
            C.due("numbers that " + m.getName() + " takes", m.getParameterCount(),
                due.containsKey(m.getName()) ? due.remove(m.getName()) : -1);
            C.holds(m.getName() + " answers an int", m.getReturnType() == int.class);
            for (Class<?> type : m.getParameterTypes()) {
                C.holds(m.getName() + " takes ints", type == int.class);
            }
        }
        C.holds("all methods are there: " + due, due.isEmpty());
    }

    private static void constructorAndClass() {
        Constructor<?>[] made = CornWay.class.getDeclaredConstructors();
        C.due("constructors", made.length, 1);
        C.due("numbers that it takes", made[0].getParameterCount(), 0);
        C.due("how it is told", made[0].getModifiers(), Modifier.PUBLIC);
        C.due("how the class is told", CornWay.class.getModifiers(), Modifier.PUBLIC | Modifier.FINAL);
        C.holds("it has no package", CornWay.class.getPackageName().isEmpty());
        for (Class<?> inside : CornWay.class.getDeclaredClasses()) {
            C.holds(inside.getName() + " is static", Modifier.isStatic(inside.getModifiers()));
            C.holds(inside.getName() + " is not of the face",
                !Modifier.isPublic(inside.getModifiers()) && !Modifier.isProtected(inside.getModifiers()));
        }
    }

    /** Rules 5 and 11: a class's fields, a method's numbers, how many classes there are. */
    private static void sizes() {
        Class<?>[] inside = CornWay.class.getDeclaredClasses();
        C.holds("at most twelve classes", inside.length < 12);
        sizesOf(CornWay.class);
        for (Class<?> each : inside) {
            sizesOf(each);
            C.due("classes inside " + each.getName(), each.getDeclaredClasses().length, 0);
        }
    }

    private static void sizesOf(Class<?> type) {
        int fields = 0;
        for (Field f : type.getDeclaredFields()) {
            fields += Modifier.isStatic(f.getModifiers()) ? 0 : 1;
            C.holds(f + ", if static, is final",
                !Modifier.isStatic(f.getModifiers()) || Modifier.isFinal(f.getModifiers()));
        }
        C.holds(type.getName() + " has at most twenty fields (" + fields + ")", fields <= 20);
        for (Method m : type.getDeclaredMethods()) {
            C.holds(m + " takes at most seven numbers", m.getParameterCount() <= 7);
        }
    }

    private static void wordsOfTheSource(String path) throws Exception {
        String source = Files.readString(Path.of(path));
        String code = source.replaceAll("(?s)/\\*.*?\\*/", "").replaceAll("//[^\n]*", "");
        Matcher m = Pattern.compile(
            "\\b(throw|throws|try|catch|synchronized|assert|import|package|hashCode|toString|System\\.(?!arraycopy))\\b"
            + "|->|::|[a-z]Exact\\b").matcher(code);
        while (m.find()) {
            C.holds("no '" + m.group() + "' in the source", false);
        }
        for (int i = 0; i < source.length(); i++) {
            if (source.charAt(i) > 126) {
                C.holds("a plain sign at " + i, false);
            }
        }
    }
}
