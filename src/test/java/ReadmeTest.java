import java.io.IOException;
import java.lang.reflect.Method;
import java.nio.file.Files;
import java.nio.file.Path;
import java.util.Map;
import java.util.regex.Matcher;
import java.util.regex.Pattern;

/** What README.md tells of the calls: the answers of its example, and its table of all calls. */
public final class ReadmeTest {
    private static final Path DOC = Path.of("../shared/DOC.md");
    private static final Pattern CALL = Pattern.compile("crane\\.(\\w+)\\(([-\\d, ]*)\\); +// (throws )?([-\\w]+)");
    private static final Pattern TYPED = Pattern.compile("for \\(char c : \"([^\"]*)\"\\.toCharArray\\(\\)\\) \\{");
    private static final Pattern ROW =
            Pattern.compile("(?m)^\\| `(\\w+)\\(([^)]*)\\)` \\|[^|]+\\|([^|]+)\\|([^|]+)\\|$");

    public static void main(String[] args) throws IOException {
        String page = Files.readString(Path.of("README.md"));
        example(page);
        table(page, Files.exists(DOC) ? Files.readString(DOC) : "");
        Check.finish("ReadmeTest");
    }

    private static void example(String page) {
        Matcher block = Pattern.compile("(?s)```java\n(.*?)```").matcher(page);
        boolean isThere = block.find();
        Check.holds("README.md has an example", isThere);
        CraneLimiter crane = new CraneLimiter();
        int calls = 0;
        for (String line : isThere ? block.group(1).split("\n") : new String[0]) {
            Matcher typed = TYPED.matcher(line);
            if (typed.find()) {
                typed.group(1).chars().forEach(crane::type);
            }
            Matcher call = CALL.matcher(line);
            if (call.find()) {
                calls++;
                String got = Calls.answer(crane, call.group(1), call.group(2));
                Check.holds("answered " + got + ": " + line, got.equals(call.group(4)));
            }
        }
        Check.holds("the example has calls with their answers", calls >= 10);
    }

    private static void table(String page, String doc) {
        Map<String, Method> left = Calls.face();
        Matcher row = ROW.matcher(page);
        while (row.find()) {
            String name = row.group(1);
            Method method = left.remove(name);
            Check.holds(name + " stands in the table once, and is a method", method != null);
            if (method == null) {
                continue;
            }
            String list = row.group(2);
            Check.due(name + " has so many parameters in the table", list.isEmpty() ? 0 : list.split(", ").length,
                    method.getParameterCount());
            Check.holds(name + " throws" + thrown(method) + ", the table tells" + row.group(3),
                    named(row.group(3)).equals(thrown(method)));
            if (!doc.isEmpty()) {
                promise(doc, name, list, row.group(4).strip().startsWith("yes"));
            }
        }
        Check.holds("the table tells nothing of " + left.keySet(), left.isEmpty());
    }

    /** Compares the names of the parameters and the undoing with the promise of the method. */
    private static void promise(String doc, String name, String list, boolean isUndoable) {
        Matcher section = Pattern.compile("(?ms)^## Promise \\d+: " + name + "$(.*?)^## ").matcher(doc);
        boolean isThere = section.find();
        Check.holds("the document has a promise of " + name, isThere);
        if (isThere) {
            String parameters = list.replaceAll("\\w+", name.equals("setOnWheels") ? "boolean $0" : "int $0");
            Check.holds(name + " has the parameters " + list,
                    section.group(1).contains(" " + name + "(" + parameters + ")"));
            Check.holds(name + " is undoable: " + isUndoable, section.group(1).contains("Undoable") == isUndoable);
        }
    }

    private static String thrown(Method method) {
        StringBuilder names = new StringBuilder();
        for (Class<?> type : method.getExceptionTypes()) {
            names.append(' ').append(type.getSimpleName());
        }
        return names.toString();
    }

    private static String named(String cell) {
        StringBuilder names = new StringBuilder();
        Matcher name = Pattern.compile("`(\\w+Exception)`").matcher(cell);
        while (name.find()) {
            names.append(' ').append(name.group(1));
        }
        return names.toString();
    }
}
