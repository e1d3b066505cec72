import java.nio.charset.StandardCharsets;
import java.util.NoSuchElementException;
import java.util.function.Supplier;
import java.util.function.ToLongFunction;

/** What the tests share: texts fed, answers compared, the end told. */
final class Check {
    private static int looked = 0;
    private static int wrong = 0;

    private Check() {
    }

    static int lookedSoFar() {
        return looked;
    }

    static int wrongSoFar() {
        return wrong;
    }

    static void due(String call, long got, long want) {
        same(call, String.valueOf(got), String.valueOf(want));
    }

    static void due(String call, boolean got, boolean want) {
        due(call, got ? 1 : 0, want ? 1 : 0);
    }

    static void same(String call, String got, String want) {
        looked++;
        if (!got.equals(want)) {
            wrong++;
            if (wrong <= 40) {
                System.out.println(call + " answered " + got + ", due is " + want);
            }
        }
    }

    /** An answer, and what trouble() tells behind it. */
    static void due(ThreeBreaths x, String call, long got, long want, int trouble) {
        due(call, got, want);
        due("trouble() behind " + call, x.trouble(), trouble);
    }

    static void due(ThreeBreaths x, String call, boolean got, boolean want, int trouble) {
        due(x, call, got ? 1 : 0, want ? 1 : 0, trouble);
    }

    static void end(String test) {
        System.out.println(test + ": " + looked + " answers looked at, " + wrong + " wrong");
        if (wrong != 0 || looked == 0) {
            System.exit(1);
        }
    }

    // ---- texts

    static int feed(ThreeBreaths x, String text) {
        return feed(x, text.getBytes(StandardCharsets.ISO_8859_1));
    }

    /** Feeds all of it, blanks behind it; how many bytes the tape has then. */
    static int feed(ThreeBreaths x, byte[] text) {
        int fed = x.size(10);
        for (int at = 0; at < text.length; at += 20) {
            fed = x.feed(four(text, at), four(text, at + 4), four(text, at + 8), four(text, at + 12), four(text, at + 16));
        }
        return fed;
    }

    private static int four(byte[] text, int at) {
        int four = 0;
        for (int i = at; i < at + 4; i++) {
            four = four << 8 | (i < text.length ? text[i] & 255 : 32);
        }
        return four;
    }

    static int cake(ThreeBreaths x, String text) {
        feed(x, text);
        return x.cake(text.length());
    }

    static ThreeBreaths told(String text) {
        ThreeBreaths x = new ThreeBreaths();
        due("breaths of \"" + text + "\" are some", cake(x, text) > 0, true);
        return x;
    }

    /** The text has no fault. */
    static void holds(String text) {
        ThreeBreaths x = new ThreeBreaths();
        due("cake \"" + text + "\" holds", cake(x, text) > 0, true);
        due("trouble() of \"" + text + "\"", x.trouble(), 0);
        due("fault() of \"" + text + "\"", x.fault(), 0);
        due("where() of \"" + text + "\"", x.where(), -1);
    }

    /** The text, without its mark ^, has this fault where the mark stands; told alone and behind two blanks. */
    static void faulty(String marked, int fault) {
        int where = marked.indexOf('^');
        String text = marked.substring(0, where) + marked.substring(where + 1);
        faulty(text, fault, where);
        faulty("  " + text, fault, where + 2);
    }

    static void faulty(String text, int fault, int where) {
        ThreeBreaths x = new ThreeBreaths();
        due(x, "cake \"" + text + "\"", cake(x, text), -1, 4);
        due("fault() of \"" + text + "\"", x.fault(), fault);
        due("where() of \"" + text + "\"", x.where(), where);
    }

    // ---- bounds, refusals

    /** What lies outside of least .. most: beside it, far off, and where a shift or a narrow number would wrap round. */
    static int[] outside(int least, int most) {
        int[] tried = {least - 1, most + 1, least - 2, most + 2, least - 16, most + 16, least - 32, least + 32, most + 32, least + 64,
            least + 256, most + 256, least + 65536, most + 65536, Integer.MIN_VALUE, Integer.MIN_VALUE + least, Integer.MIN_VALUE + most,
            Integer.MAX_VALUE, Integer.MAX_VALUE - 1};
        int[] found = new int[tried.length];
        int count = 0;
        for (int value : tried) {
            if (value < least || value > most) {
                found[count] = value;
                count++;
            }
        }
        return java.util.Arrays.copyOf(found, count);
    }

    /** A cake with a past: two breaths blown, an image between them, twenty bytes on the tape. */
    static ThreeBreaths used(String text) {
        ThreeBreaths x = told(text);
        x.blow(0);
        x.image();
        x.blow(4);
        x.feed(0x21212121, 0, -1, 0x63616b65, 0x20202020);
        return x;
    }

    /** A call that is refused answers so, trouble() tells why, and all else stays. */
    static void refused(Supplier<ThreeBreaths> made, String call, ToLongFunction<ThreeBreaths> asked, long answer, int why) {
        ThreeBreaths x = made.get();
        due(call, asked.applyAsLong(x), answer);
        due("trouble() behind " + call, x.trouble(), why);
        due("where() behind " + call, x.where(), -1);
        same("what is told behind " + call, all(x), all(made.get()));
    }

    /** A call that isn't refused answers so, and trouble() is 0 behind it, though the call before was refused. */
    static void allowed(Supplier<ThreeBreaths> made, String call, ToLongFunction<ThreeBreaths> asked, long answer) {
        ThreeBreaths x = made.get();
        x.fan(-1);
        due(x, call, asked.applyAsLong(x), answer, 0);
    }

    /** All that an object tells of what it holds; it is used up by that, for all is undone and gone back to. */
    static String all(ThreeBreaths x) {
        StringBuilder told = new StringBuilder("fault ").append(x.fault()).append(" sizes");
        for (int what = 0; what <= 10; what++) {
            told.append(' ').append(x.size(what));
        }
        told.append(" candles");
        for (int c = 0; c < x.size(0); c++) {
            told.append(' ').append(x.candle(c, 0)).append(',').append(x.candle(c, 1)).append(',').append(x.candle(c, 2));
        }
        told.append(" fans ").append(x.fans()).append(" now ").append(now(x)).append(" undone");
        for (int i = 0; i < 21 && x.undo(); i++) {
            told.append(' ').append(now(x));
        }
        told.append(" images");
        for (int i = 0; i < 4 && x.back(i); i++) {
            told.append(' ').append(now(x));
        }
        return told.toString();
    }

    static String now(ThreeBreaths x) {
        return x.burning() + "/" + x.dazed();
    }

    /** led(i), or -9 if it throws. */
    static int led(ThreeBreaths x, int i) {
        try {
            return x.led(i);
        } catch (NoSuchElementException e) {
            return -9;
        }
    }
}
