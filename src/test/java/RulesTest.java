import java.io.IOException;
import java.lang.management.ManagementFactory;
import java.lang.reflect.Constructor;
import java.lang.reflect.Field;
import java.lang.reflect.Method;
import java.lang.reflect.Modifier;
import java.nio.file.Files;
import java.nio.file.Path;
import java.util.Arrays;
import java.util.HashSet;
import java.util.Set;
import java.util.TreeSet;
import java.util.regex.Matcher;
import java.util.regex.Pattern;

/** The face of the document, the rules of LANGUAGE.md that can be looked up, and how much room a run takes. */
public final class RulesTest {
    private static final String[] FACE = {
        "int feed(int,int,int,int,int)", "int cake(int)", "int fault()", "int where()", "int candle(int,int)", "int fan(int)",
        "int breath(int,int,int)", "int breathOf(int,int)", "int fans()", "int spared()", "int lights(int,boolean)", "int burning()",
        "int dazed()", "int gain(int)", "int greedy()", "int blow(int)", "boolean light(int)", "boolean all()", "boolean undo()",
        "int fewest()", "int row(int)", "int from(int)", "int by(int)", "int inTime()", "int walk(int,int)", "int each()", "int team()",
        "int greedyEnd()", "int soonest(int)", "int few(int)", "long chance(int,boolean)", "int best(int)", "long content(int,boolean)",
        "int fits(int)", "int fitAt(int,int)", "int more(int)", "int less(int,int)", "int image()", "boolean back(int)", "int led(int)",
        "int size(int)", "int trouble()"};

    public static void main(String[] args) throws IOException {
        face();
        classes();
        source(Files.readString(Path.of("src/main/java/ThreeBreaths.java")));
        room();
        Check.end("RulesTest");
    }

    private static void face() {
        Set<String> found = new TreeSet<>();
        for (Method method : ThreeBreaths.class.getDeclaredMethods()) {
            if (Modifier.isPublic(method.getModifiers())) {
                StringBuilder types = new StringBuilder();
                for (Class<?> type : method.getParameterTypes()) {
                    types.append(types.length() == 0 ? "" : ",").append(type.getName());
                }
                found.add(method.getReturnType().getName() + " " + method.getName() + "(" + types + ")");
            } else {
                holds("private: " + method, Modifier.isPrivate(method.getModifiers()));
            }
        }
        holds("the face is the document's: " + found, found.equals(new TreeSet<>(Arrays.asList(FACE))));
        holds("final", Modifier.isFinal(ThreeBreaths.class.getModifiers()));
        Check.due("constructors", ThreeBreaths.class.getDeclaredConstructors().length, 1);
        for (Constructor<?> constructor : ThreeBreaths.class.getDeclaredConstructors()) {
            holds("public constructor", Modifier.isPublic(constructor.getModifiers()) && constructor.getParameterCount() == 0);
        }
        for (Field field : ThreeBreaths.class.getDeclaredFields()) {
            holds("field " + field, field.getName().equals("NONE") ? Modifier.isPublic(field.getModifiers())
                : Modifier.isPrivate(field.getModifiers()));
        }
        Check.due("NONE", ThreeBreaths.NONE, -1);
    }

    private static void classes() {
        Set<String> publicNames = new HashSet<>();
        for (String method : FACE) {
            publicNames.add(method.substring(method.indexOf(' ') + 1, method.indexOf('(')));
        }
        Class<?>[] inside = ThreeBreaths.class.getDeclaredClasses();
        holds("at most twelve classes", inside.length + 1 <= 12);
        for (Class<?> c : inside) {
            holds("static: " + c, Modifier.isStatic(c.getModifiers()) && !Modifier.isPublic(c.getModifiers()));
            fields(c);
            for (Method method : c.getDeclaredMethods()) {
                holds("a name of its own: " + method, !publicNames.contains(method.getName()));
                holds("at most seven parameters: " + method, method.getParameterCount() <= 7);
            }
        }
        fields(ThreeBreaths.class);
        for (Method method : ThreeBreaths.class.getDeclaredMethods()) {
            holds("a name of its own: " + method, Modifier.isPublic(method.getModifiers()) || !publicNames.contains(method.getName()));
        }
    }

    private static void fields(Class<?> c) {
        int count = 0;
        for (Field field : c.getDeclaredFields()) {
            if (Modifier.isStatic(field.getModifiers())) {
                holds("final: " + field, Modifier.isFinal(field.getModifiers()));
            } else {
                count++;
            }
        }
        holds("at most twenty fields: " + c + " has " + count, count <= 20);
    }

    private static void source(String text) {
        String code = text.replaceAll("(?s)/\\*.*?\\*/", "").replaceAll("//[^\n]*", "").replaceAll("\"[^\"\n]*\"", "\"\"");
        String[] barred = {"->", "::", "\\bsynchronized\\b", "\\bassert\\b", "\\bfinally\\b", "\\bcatch\\b", "\\btry\\b",
            "static\\s*\\{", "\\bpackage\\b", "\\bvar\\b", "Exact\\(", "\\bSystem\\.(?!arraycopy)", "\\bprotected\\b", "\\bdouble\\b",
            "\\bfloat\\b", "\\bThread\\b", "\\bRandom\\b", "\\.stream\\(", "while\\s*\\(true\\)", "for\\s*\\(;;\\)"};
        for (String bar : barred) {
            holds("without " + bar, !Pattern.compile(bar).matcher(code).find());
        }
        Matcher imports = Pattern.compile("import\\s+([\\w.]+);").matcher(code);
        while (imports.find()) {
            holds("import " + imports.group(1), Set.of("java.util.Arrays", "java.util.NoSuchElementException").contains(imports.group(1)));
        }
        Matcher thrown = Pattern.compile("throw new (\\w+)\\(\\)").matcher(code);
        int throwsFound = 0;
        while (thrown.find()) {
            throwsFound++;
            holds("throws " + thrown.group(1), thrown.group(1).equals("NoSuchElementException"));
        }
        Check.due("one throw", throwsFound, 1);
        Check.due("every throw is such", code.split("\\bthrow\\b", -1).length - 1, 1);
        lengths(text);
    }

    /** A method begins with a line that ends in ") {" behind a type and ends with a brace at the same depth. */
    private static void lengths(String text) {
        String[] lines = text.split("\n");
        Pattern head = Pattern.compile("^( {4}| {8})(?!if|for|while|switch|else|return)\\S.*\\) (throws \\w+ )?\\{$");
        for (int i = 0; i < lines.length; i++) {
            Matcher m = head.matcher(lines[i]);
            if (m.matches()) {
                int end = i;
                while (end < lines.length && !lines[end].equals(m.group(1) + "}")) {
                    end++;
                }
                holds("short: " + lines[i].trim() + " has " + (end - i + 1), end - i + 1 <= 60);
            }
        }
    }

    private static void room() {
        com.sun.management.ThreadMXBean threads = (com.sun.management.ThreadMXBean) ManagementFactory.getThreadMXBean();
        long id = Thread.currentThread().getId();
        ThreeBreaths x = new ThreeBreaths();
        Check.due("a large cake", Check.cake(x, Refusals.FULL), 320);
        heavyCalls(x);
        long before = threads.getThreadAllocatedBytes(id);
        for (int i = 0; i < 12; i++) {
            heavyCalls(x);
        }
        long taken = threads.getThreadAllocatedBytes(id) - before;
        holds("nothing is made by calls made again: " + taken, taken < 5000);
        before = threads.getThreadAllocatedBytes(id);
        ThreeBreaths y = new ThreeBreaths();
        long fresh = threads.getThreadAllocatedBytes(id) - before;
        holds("a new object is small: " + fresh, fresh < 30000 && y.size(0) == 0);
        Check.cake(y, Refusals.FULL);
        before = threads.getThreadAllocatedBytes(id);
        heavyCalls(y);
        taken = threads.getThreadAllocatedBytes(id) - before;
        // Ints mostly: some 90,000 elements of the room's 7.3 million.
        holds("an object that is asked for all takes little: " + taken, taken < 450000);
    }

    private static void heavyCalls(ThreeBreaths x) {
        for (int i = 0; i < 4; i++) {
            x.blow(i * 37);
            x.fewest();
            x.row(0);
            x.from(i);
            x.by(i);
            x.walk(i, i);
            x.each();
            x.team();
            x.greedyEnd();
            x.soonest(i);
            x.few(9);
            x.chance(3, false);
            x.best(2);
            x.content(3, true);
            x.fits(2);
            x.fitAt(2, 5);
            x.more(i);
            x.less(i % 3, i);
            x.image();
            x.back(0);
            x.undo();
            x.all();
        }
    }

    private static void holds(String rule, boolean so) {
        Check.due(rule, so, true);
    }
}
