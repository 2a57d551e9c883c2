import java.io.IOException;
import java.nio.file.Files;
import java.nio.file.Path;
import java.util.LinkedHashMap;
import java.util.Map;

/**
 * The sentences of the document, section by section. Each is quoted by a test of its own, or is said to name no
 * boundary; finish() finds the words that no quote reached, so that no sentence is left out.
 */
final class Doc {
    private static final Path FILE = Path.of("../shared/DOC.md");
    private static final Map<String, StringBuilder> SECTIONS = new LinkedHashMap<>();
    private static final Map<String, boolean[]> QUOTED = new LinkedHashMap<>();
    private static boolean isRead;
    private static String section = "";

    private Doc() {
    }

    static void read() throws IOException {
        if (!Files.exists(FILE)) {
            System.out.println(FILE + " is not there: the quotes are not compared with it");
            return;
        }
        isRead = true;
        String name = "";
        boolean isDescription = false;
        for (String line : Files.readAllLines(FILE)) {
            if (line.startsWith("#")) {
                name = line.replaceAll("^#+ *", "").replaceAll(":.*", "");
                isDescription = name.equals("Description");
            } else if (isDescription && line.matches("[A-Z ]+|Examples:.*|The constants:")) {
                name = line.replaceAll(":.*", "");
            } else if (!line.matches("----.*|`.*`|```.*")) {
                // Lines of a signature alone are FormTest's.
                SECTIONS.computeIfAbsent(name, n -> new StringBuilder()).append(' ').append(line.strip());
            }
        }
        for (Map.Entry<String, StringBuilder> entry : SECTIONS.entrySet()) {
            String text = entry.getValue().toString().replaceAll(" +", " ").strip();
            entry.getValue().setLength(0);
            entry.getValue().append(text);
            QUOTED.put(entry.getKey(), new boolean[text.length()]);
        }
    }

    static void section(String name) {
        section = name;
        Check.at(name + ": ");
        Check.holds("the document has the section " + name, !isRead || SECTIONS.containsKey(name));
    }

    /** The test of a sentence that names a boundary. */
    static void edge(String sentence, Runnable test) {
        quote(sentence);
        also(sentence, test);
    }

    /** A test of sentences that are quoted already, such as of a call that breaks two of them. */
    static void also(String what, Runnable test) {
        Check.at(section + ", \"" + (what.length() > 60 ? what.substring(0, 60) + ".." : what) + "\": ");
        int before = Check.made();
        try {
            test.run();
        } catch (RuntimeException e) {
            e.printStackTrace(System.out);
            Check.holds("the test ends without " + e, false);
        }
        Check.holds("the test checks something", Check.made() > before);
        Check.at(section + ": ");
    }

    /** Sentences that name no boundary, or that another test looks at. */
    static void plain(String... sentences) {
        for (String sentence : sentences) {
            quote(sentence);
        }
    }

    private static void quote(String sentence) {
        if (!isRead || !SECTIONS.containsKey(section)) {
            return;
        }
        String text = SECTIONS.get(section).toString();
        boolean[] quoted = QUOTED.get(section);
        int at = text.indexOf(sentence);
        Check.holds("the section " + section + " says: " + sentence, at >= 0);
        for (; at >= 0; at = text.indexOf(sentence, at + 1)) {
            for (int i = at; i < at + sentence.length(); i++) {
                quoted[i] = true;
            }
        }
    }

    /** Leaves sections out that other tests look at. */
    static void leave(String... names) {
        for (String name : names) {
            QUOTED.remove(name);
        }
    }

    static void finish() {
        Check.at("");
        for (Map.Entry<String, boolean[]> entry : QUOTED.entrySet()) {
            String text = SECTIONS.get(entry.getKey()).toString();
            boolean[] quoted = entry.getValue();
            StringBuilder left = new StringBuilder();
            for (int i = 0; i < quoted.length; i++) {
                left.append(quoted[i] ? ' ' : text.charAt(i));
            }
            String words = left.toString().replaceAll(" +", " ").strip();
            Check.holds("no test quotes from the section " + entry.getKey() + ": " + words, words.isEmpty());
        }
    }
}
