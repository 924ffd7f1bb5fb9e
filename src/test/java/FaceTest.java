import java.io.IOException;
import java.lang.reflect.Constructor;
import java.lang.reflect.Field;
import java.lang.reflect.Method;
import java.lang.reflect.Modifier;
import java.nio.file.Files;
import java.nio.file.Path;
import java.util.Arrays;
import java.util.Set;
import java.util.TreeSet;
import java.util.regex.Matcher;
import java.util.regex.Pattern;

/** The public face of the class, as rule 1 of LANGUAGE.md asks for it, and beside what the document says of it. */
public final class FaceTest {
    private static final String[] METHODS = {
        "int letters(int)", "int feed(int, long, int)", "int tear(int)", "int often(int, int)", "int key(int, int)",
        "int go(int, int, int)", "int cost(int, int)", "int body(int)", "int fix(int, int)", "int first()",
        "int put(int, int)", "int at(int)", "long all()", "long share(int)", "int better()", "long change(int, int)",
        "int search()", "long least()", "int take()", "int tries()", "long bound()", "long price(int, int)",
        "int turns()", "int alike()", "int count(int)", "long digest()"};
    private static final String[] CONSTANTS = {"NONE", "BAD", "NO", "FULL", "SPENT"};
    private static int wrong = 0;

    private static void check(boolean holds, String otherwise) {
        if (!holds) {
            wrong++;
            System.out.println(otherwise);
        }
    }

    // ---- the class

    private static String told(Method m) {
        StringBuilder s = new StringBuilder(m.getReturnType().toString()).append(' ').append(m.getName()).append('(');
        String comma = "";
        for (Class<?> p : m.getParameterTypes()) {
            s.append(comma).append(p);
            comma = ", ";
        }
        return s.append(')').toString();
    }

    private static void checkMethods() {
        Set<String> open = new TreeSet<>();
        Set<String> names = new TreeSet<>();
        for (Method m : KeySetter.class.getDeclaredMethods()) {
            if (Modifier.isPrivate(m.getModifiers())) continue;
            open.add((Modifier.isPublic(m.getModifiers()) ? "" : "not public ") + told(m));
            names.add(m.getName());
            check(!Modifier.isStatic(m.getModifiers()), m.getName() + " is static");
            check(m.getExceptionTypes().length == 0, m.getName() + " declares exceptions");
        }
        check(open.equals(new TreeSet<>(Arrays.asList(METHODS))), "the methods are " + open);
        checkHiddenNames(KeySetter.class, names);
        for (Class<?> inside : KeySetter.class.getDeclaredClasses()) checkHiddenNames(inside, names);
    }

    private static void checkHiddenNames(Class<?> c, Set<String> names) {
        for (Method m : c.getDeclaredMethods()) {
            boolean face = c == KeySetter.class && Modifier.isPublic(m.getModifiers());
            check(face || !names.contains(m.getName()), c.getName() + "." + m.getName() + " bears a public name");
        }
    }

    private static void checkFields() throws IllegalAccessException {
        Set<String> open = new TreeSet<>();
        for (Field f : KeySetter.class.getDeclaredFields()) {
            if (!Modifier.isPrivate(f.getModifiers())) open.add(f.getName());
        }
        check(open.equals(new TreeSet<>(Arrays.asList(CONSTANTS))), "the open fields are " + open);
        for (int i = 0; i < CONSTANTS.length && wrong == 0; i++) {
            try {
                Field f = KeySetter.class.getField(CONSTANTS[i]);
                check(f.getType() == int.class && f.getInt(null) == -1 - i, CONSTANTS[i] + " is not " + (-1 - i));
                check(Modifier.isStatic(f.getModifiers()) && Modifier.isFinal(f.getModifiers()), CONSTANTS[i] + " is none");
            } catch (NoSuchFieldException e) {
                check(false, CONSTANTS[i] + " is not there");
            }
        }
    }

    private static void checkClasses() {
        int is = KeySetter.class.getModifiers();
        check(Modifier.isPublic(is) && Modifier.isFinal(is), "the class is not public and final");
        check(KeySetter.class.getPackageName().isEmpty(), "the class has a package");
        check(KeySetter.class.getSuperclass() == Object.class && KeySetter.class.getInterfaces().length == 0,
            "the class has classes above it");
        Constructor<?>[] makers = KeySetter.class.getDeclaredConstructors();
        check(makers.length == 1 && makers[0].getParameterCount() == 0 && Modifier.isPublic(makers[0].getModifiers())
            && makers[0].getExceptionTypes().length == 0, "the constructor is another");
        for (Class<?> c : KeySetter.class.getDeclaredClasses()) {
            check(Modifier.isStatic(c.getModifiers()), c + " is not static");
            check(!Modifier.isPublic(c.getModifiers()) && !Modifier.isProtected(c.getModifiers()), c + " is open");
        }
    }

    // ---- the document

    /** The lines of the document's face, but for the names of parameters, are those that are looked for above. */
    private static void layBeside(String document) {
        Matcher face = Pattern.compile("(?s)\n## The public face\n.*?```java\n(.*?)```").matcher(document);
        if (!face.find()) {
            check(false, "the document tells no face");
            return;
        }
        Set<String> methods = new TreeSet<>();
        String rest = face.group(1);
        Matcher m = Pattern.compile("public (\\w+ \\w+)\\(([^)]*)\\);").matcher(rest);
        while (m.find()) methods.add(m.group(1) + "(" + m.group(2).replaceAll("(\\w+) \\w+", "$1") + ")");
        check(methods.equals(new TreeSet<>(Arrays.asList(METHODS))), "the document's methods are " + methods);

        StringBuilder constants = new StringBuilder("public static final int ");
        for (int i = 0; i < CONSTANTS.length; i++) constants.append(i == 0 ? "" : ", ").append(CONSTANTS[i]).append(" = ").append(-1 - i);
        rest = m.replaceAll("").replace(constants.append(";"), "").replace("public KeySetter();", "")
            .replace("public final class KeySetter {", "").replace("}", "");
        check(rest.isBlank(), "the document's face has more: " + rest);
    }

    public static void main(String[] args) throws IOException, IllegalAccessException {
        checkMethods();
        checkFields();
        checkClasses();
        Path document = Path.of("../shared/DOC.md");
        if (Files.exists(document)) layBeside(Files.readString(document));
        else System.out.println("the document is not there, so the face is not laid beside it");
        System.out.println(wrong == 0 ? "the face is the document's" : wrong + " things are not as due");
        if (wrong != 0) System.exit(1);
    }
}
