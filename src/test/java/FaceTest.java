import java.io.IOException;
import java.lang.reflect.Constructor;
import java.lang.reflect.Field;
import java.lang.reflect.Method;
import java.lang.reflect.Modifier;
import java.nio.file.Files;
import java.nio.file.Path;
import java.util.Arrays;
import java.util.Set;
import java.util.TreeSet;
import java.util.regex.Matcher;
import java.util.regex.Pattern;

/** The public face of the document, and rules of LANGUAGE.md that a look at the class can check. */
public final class FaceTest {
    private static final String[] METHODS = {
        "int letters(int)", "int feed(int, long, int)", "int tear(int)", "int often(int, int)", "int key(int, int)",
        "int go(int, int, int)", "int cost(int, int)", "int body(int)", "int fix(int, int)", "int first()",
        "int put(int, int)", "int at(int)", "long all()", "long share(int)", "int better()", "long change(int, int)",
        "int search()", "long least()", "int take()", "int tries()", "long bound()", "long price(int, int)",
        "int turns()", "int alike()", "int count(int)", "long digest()"};
    private static final String[] CONSTANTS = {"NONE", "BAD", "NO", "FULL", "SPENT"};
    private static final String[] NOT_IN_THE_LANGUAGE = {
        "\\bthrow\\b", "\\bthrows\\b", "\\btry\\b", "\\bcatch\\b", "\\bsynchronized\\b", "\\bassert\\b", "->", "::",
        "\\bstatic\\s*\\{", "\\bpackage\\b", "\\bvar\\b", "Exact\\b", "\\bSystem\\.(?!arraycopy)", "\\bThread\\b",
        "\\bRandom\\b", "\\bObject\\b", "\\bvolatile\\b", "\\bnative\\b", "\\bimport (?!java\\.util\\.Arrays;)"};
    private static int wrong = 0;

    private static void check(boolean holds, String otherwise) {
        if (!holds) {
            wrong++;
            System.out.println(otherwise);
        }
    }

    private static String told(Method m) {
        StringBuilder s = new StringBuilder(m.getReturnType().toString()).append(' ').append(m.getName()).append('(');
        String comma = "";
        for (Class<?> p : m.getParameterTypes()) {
            s.append(comma).append(p);
            comma = ", ";
        }
        return s.append(')').toString();
    }

    private static void checkMethods() {
        Set<String> open = new TreeSet<>();
        Set<String> names = new TreeSet<>();
        for (Method m : KeySetter.class.getDeclaredMethods()) {
            if (Modifier.isPrivate(m.getModifiers())) continue;
            open.add((Modifier.isPublic(m.getModifiers()) ? "" : "not public ") + told(m));
            names.add(m.getName());
            check(m.getExceptionTypes().length == 0, m.getName() + " declares exceptions");
        }
        check(open.equals(new TreeSet<>(Arrays.asList(METHODS))), "the methods are " + open);
        checkHiddenNames(KeySetter.class, names);
        for (Class<?> inside : KeySetter.class.getDeclaredClasses()) checkHiddenNames(inside, names);
    }

    private static void checkHiddenNames(Class<?> c, Set<String> names) {
        for (Method m : c.getDeclaredMethods()) {
            boolean face = c == KeySetter.class && Modifier.isPublic(m.getModifiers());
            check(face || !names.contains(m.getName()), c.getName() + "." + m.getName() + " bears a public name");
            check(m.getParameterCount() <= 7, c.getName() + "." + m.getName() + " takes too many parameters");
        }
    }

    private static void checkFields() throws IllegalAccessException {
        Set<String> open = new TreeSet<>();
        for (Field f : KeySetter.class.getDeclaredFields()) {
            int is = f.getModifiers();
            if (!Modifier.isPrivate(is)) open.add(f.getName());
            check(!Modifier.isStatic(is) || Modifier.isFinal(is), f.getName() + " is static and not final");
        }
        check(open.equals(new TreeSet<>(Arrays.asList(CONSTANTS))), "the open fields are " + open);
        for (int i = 0; i < CONSTANTS.length && wrong == 0; i++) {
            try {
                Field f = KeySetter.class.getField(CONSTANTS[i]);
                check(f.getType() == int.class && f.getInt(null) == -1 - i, CONSTANTS[i] + " is not " + (-1 - i));
            } catch (NoSuchFieldException e) {
                check(false, CONSTANTS[i] + " is not there");
            }
        }
    }

    private static void checkClasses() {
        int is = KeySetter.class.getModifiers();
        check(Modifier.isPublic(is) && Modifier.isFinal(is), "the class is not public and final");
        Constructor<?>[] makers = KeySetter.class.getDeclaredConstructors();
        check(makers.length == 1 && makers[0].getParameterCount() == 0 && Modifier.isPublic(makers[0].getModifiers()),
            "the constructor is another");
        Class<?>[] inside = KeySetter.class.getDeclaredClasses();
        check(inside.length < 12, "too many classes");
        for (Class<?> c : inside) {
            check(Modifier.isStatic(c.getModifiers()), c + " is not static");
            check(!Modifier.isPublic(c.getModifiers()) && !Modifier.isProtected(c.getModifiers()), c + " is open");
            int fields = 0;
            for (Field f : c.getDeclaredFields()) if (!Modifier.isStatic(f.getModifiers())) fields++;
            check(fields <= 20, c + " has too many fields");
        }
    }

    private static void checkSource() throws IOException {
        String source = Files.readString(Path.of("src/main/java/KeySetter.java"));
        String code = source.replaceAll("(?s)/\\*.*?\\*/", " ").replaceAll("//[^\n]*", " ");
        for (String word : NOT_IN_THE_LANGUAGE) {
            Matcher m = Pattern.compile(word).matcher(code);
            check(!m.find(), "the source has " + word);
        }
        check(source.chars().allMatch(c -> c < 128), "the source is not plain text");
    }

    public static void main(String[] args) throws IOException, IllegalAccessException {
        checkMethods();
        checkFields();
        checkClasses();
        checkSource();
        System.out.println(wrong == 0 ? "the face is the document's" : wrong + " things are not as due");
        if (wrong != 0) System.exit(1);
    }
}
