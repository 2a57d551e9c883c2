import java.io.IOException;
import java.nio.file.Files;
import java.nio.file.Path;
import java.util.regex.Matcher;
import java.util.regex.Pattern;

/** The four examples of the document, call by call, and as they stand in its text. */
public final class ExamplesTest {
    private static final Path DOC = Path.of("../shared/DOC.md");
    private static final Pattern CALL = Pattern.compile("(\\w+)\\(([-\\d, ]*)\\) = (throws )?([-\\w]+)");

    public static void main(String[] args) throws IOException {
        aLoadOnTheHook();
        aWarningAndTheBypass();
        anOutriggerAndWind();
        aZoneAndExceptions();
        if (Files.exists(DOC)) {
            asTheyStand(Files.readString(DOC));
        } else {
            System.out.println(DOC + " is not there: its examples are not read from it");
        }
        Check.finish("ExamplesTest");
    }

    private static void aLoadOnTheHook() {
        CraneLimiter c = new CraneLimiter();
        Check.due("1: boom(3)", c.boom(3), 600);
        Check.due("1: boom(4)", c.boom(4), 1549);
        Check.due("1: fillTable(2, 8000)", c.fillTable(2, 8000), 202749);
        Check.due("1: rated(1500, 600, 0)", c.rated(1500, 600, 0), 12666);
        Check.due("1: maxRadius(5000)", c.maxRadius(5000), 1528);
        Check.due("1: attach(5000)", c.attach(5000), 0);
        Check.due("1: run(1, 4)", c.run(1, 4), 4);
        Check.due("1: limiter(0)", c.limiter(0), 5200);
        Check.due("1: limiter(1)", c.limiter(1), 615);
        Check.due("1: limiter(5)", c.limiter(5), 12476);
        Check.due("1: limiter(6)", c.limiter(6), 400);
    }

    private static void aWarningAndTheBypass() {
        CraneLimiter c = new CraneLimiter();
        Check.due("2: fillTable(2, 6000)", c.fillTable(2, 6000), 152070);
        Check.due("2: attach(9000)", c.attach(9000), 0);
        Check.due("2: run(1, 4)", c.run(1, 4), 4);
        Check.due("2: limiter(7)", c.limiter(7), 1);
        Check.due("2: permitted()", c.permitted(), 255);
        Check.due("2: run(1, 3)", c.run(1, 3), 3);
        Check.due("2: event(0, 1)", c.event(0, 1), 1);
        Check.noIndex("2: event(1, 2)", c, () -> c.event(1, 2));
        Check.due("2: bypass(5)", c.bypass(5), 0);
        Check.due("2: run(1, 1)", c.run(1, 1), 1);
        Check.due("2: limiter(7)", c.limiter(7), 3);
    }

    private static void anOutriggerAndWind() {
        CraneLimiter c = new CraneLimiter();
        Check.due("3: setOutrigger(1, 1)", c.setOutrigger(1, 1), 2);
        Check.due("3: fillTable(2, 9000)", c.fillTable(2, 9000), 228106);
        Check.due("3: fillTable(1, 5000)", c.fillTable(1, 5000), 126711);
        Check.due("3: rated(1500, 600, 449)", c.rated(1500, 600, 449), 14250);
        Check.due("3: rated(1500, 600, 451)", c.rated(1500, 600, 451), 7916);
        Check.due("3: rated(1500, 600, 2250)", c.rated(1500, 600, 2250), 14250);
        Check.due("3: wind(150)", c.wind(150), 150);
        Check.due("3: rated(1500, 600, 449)", c.rated(1500, 600, 449), 12825);
    }

    private static void aZoneAndExceptions() {
        CraneLimiter c = new CraneLimiter();
        Check.due("4: addZone(3000, 600, 500, 2000)", c.addZone(3000, 600, 500, 2000), 1);
        Check.due("4: boom(9)", c.boom(9), 100);
        Check.due("4: run(4, 50)", c.run(4, 50), 50);
        Check.due("4: boom(9)", c.boom(9), 0);
        Check.noIndex("4: event(0, 1)", c, () -> c.event(0, 1));
        Check.noIndex("4: event(0, 2)", c, () -> c.event(0, 2));
        Check.noArgument("4: run(3, 1)", c, () -> c.run(3, 1));
        Check.noArgument("4: setBoom(999, 0, 0)", c, () -> c.setBoom(999, 0, 0));
    }

    private static void asTheyStand(String doc) {
        int start = Math.max(doc.indexOf("\nExamples:"), 0);
        int end = Math.max(doc.indexOf("\nThe constants:", start), start);
        String[] examples = doc.substring(start, end).split("\n(?=\\d\\. )");
        Check.due("examples in the document", examples.length - 1, 4);
        int calls = 0;
        for (int i = 1; i < examples.length; i++) {
            CraneLimiter crane = new CraneLimiter();
            Matcher call = CALL.matcher(examples[i].replaceAll("\\s+", " "));
            while (call.find()) {
                calls++;
                String got = Calls.answer(crane, call.group(1), call.group(2));
                Check.holds("document, " + i + ": " + call.group() + ", answered " + got, got.equals(call.group(4)));
            }
        }
        Check.due("calls in the document's examples", calls, 38);
    }
}
