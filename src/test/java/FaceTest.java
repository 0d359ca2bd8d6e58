import java.io.IOException;
import java.lang.reflect.Constructor;
import java.lang.reflect.Field;
import java.lang.reflect.Method;
import java.lang.reflect.Modifier;
import java.nio.file.Files;
import java.nio.file.Path;
import java.util.List;
import java.util.Set;
import java.util.TreeSet;

/** The public face of the document, and the rules of LANGUAGE.md that a look at the file can tell. */
public final class FaceTest {
    private static final Check check = new Check("FaceTest");

    private static final Set<String> METHODS = Set.of(
            "int batch(int, int, int)", "boolean rule(int, int, int, int)", "boolean freeze(int)",
            "boolean out(int, int, int)", "boolean late(int, int)", "int run(long)", "int tankOf(int)",
            "int start(int)", "int changed(int)", "int bound()", "boolean undo()", "int copy()",
            "int compare(int, int)", "long cost()");
    private static final Set<String> CONSTANTS = Set.of("int NONE", "int FULL", "int SPENT");
    private static final List<String> NOT_IN_THE_FILE = List.of(
            "\\bthrow\\b", "\\btry\\b", "\\bcatch\\b", "\\bsynchronized\\b", "\\bassert\\b", "->", "::",
            "\\w+Exact\\b", "\\bpackage\\b", "\\bSystem\\.(?!arraycopy)", "\\bThread\\b", "\\bRandom\\b",
            "\\bimport\\s+(?!java\\.util\\.Arrays;)", "\\bwhile\\s*\\(true\\)", "[^\\x00-\\x7f]");

    public static void main(String[] args) throws IOException {
        face();
        nestedClasses();
        source();
        check.end();
    }

    private static void face() {
        check.part("face");
        Class<?> face = LeastChanges.class;
        check.holds("the class is public and final",
                Modifier.isPublic(face.getModifiers()) && Modifier.isFinal(face.getModifiers()));
        Set<String> methods = new TreeSet<>();
        for (Method m : face.getDeclaredMethods()) {
            if (!Modifier.isPrivate(m.getModifiers())) {
                check.holds(m + " is public and not static",
                        Modifier.isPublic(m.getModifiers()) && !Modifier.isStatic(m.getModifiers()));
                methods.add(m.getReturnType() + " " + m.getName() + parameters(m.getParameterTypes()));
            }
        }
        check.holds("the methods are " + methods, methods.equals(METHODS));
        Set<String> constants = new TreeSet<>();
        for (Field f : face.getDeclaredFields()) {
            boolean isStatic = Modifier.isStatic(f.getModifiers());
            check.holds(f + " is final if static", !isStatic || Modifier.isFinal(f.getModifiers()));
            if (!Modifier.isPrivate(f.getModifiers())) {
                check.holds(f + " is public and static", Modifier.isPublic(f.getModifiers()) && isStatic);
                constants.add(f.getType() + " " + f.getName());
            }
        }
        check.holds("the constants are " + constants, constants.equals(CONSTANTS));
        Constructor<?>[] made = face.getDeclaredConstructors();
        check.holds("one public constructor of two ints", made.length == 1
                && Modifier.isPublic(made[0].getModifiers())
                && parameters(made[0].getParameterTypes()).equals("(int, int)"));
    }

    private static void nestedClasses() {
        check.part("classes inside");
        Set<String> names = new TreeSet<>();
        for (Method m : LeastChanges.class.getDeclaredMethods()) {
            if (Modifier.isPublic(m.getModifiers())) {
                names.add(m.getName());
            } else {
                check.holds(m + " has a name of its own", !METHODS.toString().contains(" " + m.getName() + "("));
            }
        }
        for (Class<?> inside : LeastChanges.class.getDeclaredClasses()) {
            int modifiers = inside.getModifiers();
            check.holds(inside + " is private and static",
                    Modifier.isPrivate(modifiers) && Modifier.isStatic(modifiers));
            for (Method m : inside.getDeclaredMethods()) {
                check.holds(m + " has a name of its own", !names.contains(m.getName()));
                check.holds(m + " has at most seven parameters", m.getParameterCount() <= 7);
            }
            for (Field f : inside.getDeclaredFields()) {
                boolean isStatic = Modifier.isStatic(f.getModifiers());
                check.holds(f + " is final if static", !isStatic || Modifier.isFinal(f.getModifiers()));
            }
        }
    }

    private static void source() throws IOException {
        check.part("source");
        String text = Files.readString(Path.of("src/main/java/LeastChanges.java"));
        String code = text.replaceAll("(?s)/\\*.*?\\*/", "").replaceAll("//[^\n]*", "");
        for (String pattern : NOT_IN_THE_FILE) {
            check.holds("the file has " + pattern, !java.util.regex.Pattern.compile(pattern).matcher(code).find());
        }
        // Calls make no objects, so that any number of them fits in the room: only constructors do.
        for (String line : code.split("\n")) {
            boolean inConstructor = line.matches("\\s*(private )?final .*") || line.matches("\\s*this\\..*");
            check.holds("made outside a constructor: " + line, !line.contains("new ") || inConstructor);
            check.holds("copied: " + line, !line.contains(".clone(") && !line.contains("copyOf"));
        }
    }

    private static String parameters(Class<?>[] types) {
        StringBuilder text = new StringBuilder("(");
        for (Class<?> type : types) {
            text.append(text.length() > 1 ? ", " : "").append(type.getName());
        }
        return text.append(")").toString();
    }
}
