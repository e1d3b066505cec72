import java.io.IOException;
import java.lang.reflect.Method;
import java.nio.file.Files;
import java.nio.file.Path;
import java.util.Set;
import java.util.TreeSet;
import java.util.regex.Matcher;
import java.util.regex.Pattern;

/** Every Term and every promise has tests of its own, and the words that a test says it is of stand in the document. */
public final class SentencesTest {
    private static final Class<?>[] TESTS = {Term1Test.class, Term2Test.class, Term3Test.class, Term4Test.class, Promise1To5Test.class,
        Promise6To12Test.class, Promise13To20Test.class, Promise21To31Test.class, Promise32To38Test.class, Promise39To43Test.class};
    private static final Pattern NAME = Pattern.compile("(term[1-4]|promise[0-9]{2})_\\w+");

    public static void main(String[] args) throws IOException {
        String document = plain(Files.readString(Path.of("../shared/DOC.md")));
        Set<String> found = new TreeSet<>();
        for (Class<?> tests : TESTS) {
            for (Method test : Sentences.of(tests)) {
                Matcher name = NAME.matcher(test.getName());
                Check.due(test.getName() + " is named by a Term or a promise", name.matches(), true);
                if (name.matches()) {
                    found.add(name.group(1));
                    says(document, name.group(1), test);
                }
            }
        }
        for (int promise = 1; promise <= 43; promise++) {
            Check.due("promise " + promise + " has tests", found.contains(String.format("promise%02d", promise)), true);
        }
        for (int term = 1; term <= 4; term++) {
            Check.due("Term " + term + " has tests", found.contains("term" + term), true);
        }
        Check.end("SentencesTest");
    }

    /** What a promise's test says may stand in its Term, too: mostly there is what the promise only names. */
    private static void says(String document, String of, Method test) {
        String words = plain(test.getAnnotation(Says.class).value());
        String terms = between(document, "## Terms", "## Promise 1:");
        String place = of.startsWith("term") ? terms + between(document, "## What it is", "## The public face")
            : between(document, "## Promise " + Integer.parseInt(of.substring(7)) + ":", "## ") + terms;
        Check.due(test.getName() + " says what the document says", place.contains(words), true);
    }

    private static String between(String document, String begin, String end) {
        int at = document.indexOf(begin);
        int next = document.indexOf(end, at + begin.length());
        return at < 0 ? "" : document.substring(at, next < 0 ? document.length() : next);
    }

    private static String plain(String text) {
        return text.replaceAll("\\s+", " ").trim();
    }
}
