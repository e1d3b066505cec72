import java.nio.charset.StandardCharsets;
import java.util.NoSuchElementException;

/** What the tests share: texts fed, answers compared, the end told. */
final class Check {
    private static int looked = 0;
    private static int wrong = 0;

    private Check() {
    }

    static int lookedSoFar() {
        return looked;
    }

    static int wrongSoFar() {
        return wrong;
    }

    static void due(String call, long got, long want) {
        same(call, String.valueOf(got), String.valueOf(want));
    }

    static void due(String call, boolean got, boolean want) {
        due(call, got ? 1 : 0, want ? 1 : 0);
    }

    static void same(String call, String got, String want) {
        looked++;
        if (!got.equals(want)) {
            wrong++;
            if (wrong <= 40) {
                System.out.println(call + " answered " + got + ", due is " + want);
            }
        }
    }

    /** An answer, and what trouble() tells behind it. */
    static void due(ThreeBreaths x, String call, long got, long want, int trouble) {
        due(call, got, want);
        due("trouble() behind " + call, x.trouble(), trouble);
    }

    static void due(ThreeBreaths x, String call, boolean got, boolean want, int trouble) {
        due(x, call, got ? 1 : 0, want ? 1 : 0, trouble);
    }

    static void end(String test) {
        System.out.println(test + ": " + looked + " answers looked at, " + wrong + " wrong");
        if (wrong != 0 || looked == 0) {
            System.exit(1);
        }
    }

    // ---- texts

    static int feed(ThreeBreaths x, String text) {
        return feed(x, text.getBytes(StandardCharsets.ISO_8859_1));
    }

    /** Feeds all of it, blanks behind it; how many bytes the tape has then. */
    static int feed(ThreeBreaths x, byte[] text) {
        int fed = x.size(10);
        for (int at = 0; at < text.length; at += 20) {
            fed = x.feed(four(text, at), four(text, at + 4), four(text, at + 8), four(text, at + 12), four(text, at + 16));
        }
        return fed;
    }

    private static int four(byte[] text, int at) {
        int four = 0;
        for (int i = at; i < at + 4; i++) {
            four = four << 8 | (i < text.length ? text[i] & 255 : 32);
        }
        return four;
    }

    static int cake(ThreeBreaths x, String text) {
        feed(x, text);
        return x.cake(text.length());
    }

    static ThreeBreaths told(String text) {
        ThreeBreaths x = new ThreeBreaths();
        due("breaths of \"" + text + "\" are some", cake(x, text) > 0, true);
        return x;
    }

    /** The text has no fault. */
    static void holds(String text) {
        ThreeBreaths x = new ThreeBreaths();
        due("cake \"" + text + "\" holds", cake(x, text) > 0, true);
        due("trouble() of \"" + text + "\"", x.trouble(), 0);
        due("fault() of \"" + text + "\"", x.fault(), 0);
        due("where() of \"" + text + "\"", x.where(), -1);
    }

    /** The text, without its mark ^, has this fault where the mark stands; told alone and behind two blanks. */
    static void faulty(String marked, int fault) {
        int where = marked.indexOf('^');
        String text = marked.substring(0, where) + marked.substring(where + 1);
        faulty(text, fault, where);
        faulty("  " + text, fault, where + 2);
    }

    static void faulty(String text, int fault, int where) {
        ThreeBreaths x = new ThreeBreaths();
        due(x, "cake \"" + text + "\"", cake(x, text), -1, 4);
        due("fault() of \"" + text + "\"", x.fault(), fault);
        due("where() of \"" + text + "\"", x.where(), where);
    }

    /** led(i), or -9 if it throws. */
    static int led(ThreeBreaths x, int i) {
        try {
            return x.led(i);
        } catch (NoSuchElementException e) {
            return -9;
        }
    }
}
