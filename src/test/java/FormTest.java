import java.io.IOException;
import java.lang.reflect.Constructor;
import java.lang.reflect.Field;
import java.lang.reflect.Method;
import java.lang.reflect.Modifier;
import java.nio.file.Files;
import java.nio.file.Path;
import java.util.ArrayList;
import java.util.Arrays;
import java.util.List;
import java.util.Set;
import java.util.TreeSet;
import java.util.regex.Matcher;
import java.util.regex.Pattern;

/** The face of the document, and what a text search can tell of the rules of LANGUAGE.md. */
public final class FormTest {
    private static final String[] FACE = {
        "int setOutrigger(int, int) IndexOutOfBoundsException IllegalArgumentException",
        "boolean setOnWheels(boolean)",
        "int setCapacity(int, int, int, int) IndexOutOfBoundsException IllegalArgumentException",
        "int fillTable(int, int) IndexOutOfBoundsException IllegalArgumentException",
        "int capacity(int, int, int) IndexOutOfBoundsException",
        "int addZone(int, int, int, int) IllegalArgumentException IllegalStateException",
        "int removeZone(int) IndexOutOfBoundsException",
        "int setBoom(int, int, int) IllegalArgumentException IllegalStateException",
        "int wind(int) IllegalArgumentException",
        "int attach(int) IllegalArgumentException IllegalStateException",
        "int setTare(int) IllegalArgumentException",
        "int bypass(int) IllegalArgumentException",
        "int run(int, int) IllegalArgumentException",
        "int permitted()",
        "int predicted(int) IllegalArgumentException",
        "int boom(int) IllegalArgumentException",
        "int limiter(int) IllegalArgumentException",
        "int rated(int, int, int) IllegalArgumentException",
        "int maxRadius(int) IllegalArgumentException",
        "int worstSlew(int, int, int) IllegalArgumentException",
        "int events()",
        "int event(int, int) IndexOutOfBoundsException IllegalArgumentException",
        "int stateTime(int) IllegalArgumentException",
        "int lifts(int) IllegalArgumentException",
        "int spectrum()",
        "int type(int) IllegalArgumentException IllegalStateException",
        "int clearText()",
        "int runScript()",
        "int undo() IllegalStateException",
        "long digest()"
    };
    private static final String[] CONSTANTS = {"NONE = -1", "NORMAL = 0", "WARNING = 1", "CUTOUT = 2",
        "BYPASSED = 3", "BLOCKED = 0", "STATE = 1", "OVERLOAD = 2", "LIFT = 3"};
    private static final String[] FORBIDDEN = {"\\bimport\\b", "\\bpackage\\b", "->", "::", "\\bcatch\\b", "\\btry\\b",
        "\\bfinally\\b", "\\bsynchronized\\b", "\\bassert\\b", "\\bprotected\\b", "\\bObject\\b", "Exact\\(",
        "\\bequals\\(", "\\bhashCode\\(", "\\btoString\\(", "\\bfloat\\b", "\\bdouble\\b", "\\bSystem\\.(?!arraycopy)",
        "\\bnative\\b", "\\bvolatile\\b", "\\btransient\\b", "\\bThread\\b", "\\bRandom\\b", "\\bvar\\b", "[^\\x00-\\x7f]",
        "static \\{"};

    public static void main(String[] args) throws IOException {
        face();
        classesInside();
        String source = Files.readString(Path.of(args.length > 0 ? args[0] : "src/main/java/CraneLimiter.java"));
        String code = source.replaceAll("(?s)/\\*.*?\\*/", "").replaceAll("//.*", "");
        for (String pattern : FORBIDDEN) {
            Check.holds("the program holds no " + pattern, !Pattern.compile(pattern).matcher(code).find());
        }
        exceptions(code);
        lengths(source);
        Check.finish("FormTest");
    }

    private static void face() {
        Set<String> due = new TreeSet<>(Arrays.asList(FACE));
        Set<String> got = new TreeSet<>();
        Set<String> names = new TreeSet<>();
        Set<String> hidden = new TreeSet<>();
        for (Method m : CraneLimiter.class.getDeclaredMethods()) {
            if (Modifier.isPrivate(m.getModifiers())) {
                hidden.add(m.getName());
                continue;
            }
            Check.holds(m + " is public, and no more", m.getModifiers() == Modifier.PUBLIC);
            got.add(signature(m));
            names.add(m.getName());
        }
        same("the methods of the face", got, due);
        hidden.retainAll(names);
        same("private methods with the name of a public one", hidden, Set.of());
        Constructor<?>[] constructors = CraneLimiter.class.getDeclaredConstructors();
        Check.due("constructors", constructors.length, 1);
        Check.due("the constructor is public", constructors[0].getModifiers(), Modifier.PUBLIC);
        Check.due("the constructor's parameters", constructors[0].getParameterCount(), 0);
        Check.due("the class is public and final", CraneLimiter.class.getModifiers(), Modifier.PUBLIC | Modifier.FINAL);
        constants();
    }

    private static String signature(Method m) {
        List<String> types = new ArrayList<>();
        for (Class<?> type : m.getParameterTypes()) {
            types.add(type.getSimpleName());
        }
        StringBuilder s = new StringBuilder(m.getReturnType().getSimpleName() + " " + m.getName());
        s.append('(').append(String.join(", ", types)).append(')');
        for (Class<?> thrown : m.getExceptionTypes()) {
            s.append(' ').append(thrown.getSimpleName());
        }
        return s.toString();
    }

    private static void constants() {
        Set<String> got = new TreeSet<>();
        for (Field f : CraneLimiter.class.getDeclaredFields()) {
            if (Modifier.isPrivate(f.getModifiers())) {
                continue;
            }
            Check.due(f + " is public, static and final", f.getModifiers(),
                    Modifier.PUBLIC | Modifier.STATIC | Modifier.FINAL);
            try {
                got.add(f.getName() + " = " + f.getInt(null));
            } catch (IllegalAccessException e) {
                got.add(f.getName());
            }
        }
        same("the constants", got, new TreeSet<>(Arrays.asList(CONSTANTS)));
    }

    private static void classesInside() {
        List<Class<?>> classes = new ArrayList<>(Arrays.asList(CraneLimiter.class.getDeclaredClasses()));
        for (Class<?> c : classes) {
            int m = c.getModifiers();
            Check.holds(c + " is private and static", Modifier.isPrivate(m) && Modifier.isStatic(m));
        }
        classes.add(CraneLimiter.class);
        Check.holds("at most twelve classes", classes.size() <= 12);
        for (Class<?> c : classes) {
            int fields = 0;
            for (Field f : c.getDeclaredFields()) {
                boolean isStatic = Modifier.isStatic(f.getModifiers());
                Check.holds(f + " is final if static", !isStatic || Modifier.isFinal(f.getModifiers()));
                fields += isStatic ? 0 : 1;
            }
            Check.holds(c + " has at most twenty fields", fields <= 20);
            for (Method m : c.getDeclaredMethods()) {
                Check.holds(m + " has at most seven parameters", m.getParameterCount() <= 7);
            }
        }
    }

    private static void exceptions(String code) {
        Matcher m = Pattern.compile("\\bthrow\\b(.*)").matcher(code);
        while (m.find()) {
            Check.holds("the form of throw" + m.group(1), m.group(1).matches(
                    " new (IllegalState|IllegalArgument|IndexOutOfBounds)Exception\\(\"[a-z ]+\"\\);"));
        }
    }

    private static void lengths(String source) {
        Matcher m = Pattern.compile("(?m)^(    |        )\\w[^;=]*\\) *(throws [^{]*)?\\{\\n(?s:.*?)^\\1\\}").matcher(source);
        int methods = 0;
        while (m.find()) {
            methods++;
            Check.holds("short: " + m.group().lines().findFirst().orElse(""), m.group().lines().count() <= 60);
        }
        Check.holds("methods were found", methods > 60);
    }

    private static void same(String what, Set<String> got, Set<String> due) {
        Check.holds(what + " are " + got + ", due are " + due, got.equals(due));
    }
}
