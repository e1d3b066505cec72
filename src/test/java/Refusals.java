import java.util.Arrays;
import java.util.function.Supplier;
import java.util.function.ToLongFunction;

/** Calls that are refused, beside those that aren't: what they answer, what trouble() tells, and that all else stays. */
final class Refusals {
    interface Asked {
        long by(ThreeBreaths x, int i);
    }

    // As little as a cake can have, and as much.
    static final String SMALL = "cake near 2 wax 3;candle a at 1,0 plain;place o at 0,0;person p reach 3 spread 1";
    static final String FULL = "cake near 3 wax 9;candle a at 1,4 trick;candle b at 7,2 trick;candle c at 3,3 trick;"
        + "candle d at 5,5 again;candle e at 6,1 again;candle f at 2,7 plain;candle g at 4,0 tall;candle h at 0,6 again;"
        + "candle i at 7,7 plain;candle j at 3,6 tall;place k at 0,0;place l at 7,0;place m at 0,7;place n at 8,8;place o at 4,4;"
        + "person p reach 9 spread 3;person q reach 6 spread 8;person r reach 30 spread 1;person s reach 12 spread 2;"
        + "spot t at 1,1;spot u at 5,2;spot v at 6,6;spot w at 2,5;shaky 1,3,2;left j,a,b,c,d,e,f,g,h,i";

    private Refusals() {
    }

    // ---- objects that are asked

    /** No cake, and twenty bytes on the tape. */
    static ThreeBreaths none() {
        ThreeBreaths x = new ThreeBreaths();
        feedTwenty(x);
        return x;
    }

    static ThreeBreaths small() {
        return used(SMALL);
    }

    static ThreeBreaths full() {
        return used(FULL);
    }

    /** A cake with a past: two breaths blown, an image between them, twenty bytes on the tape. */
    static ThreeBreaths used(String text) {
        ThreeBreaths x = Check.told(text);
        x.blow(0);
        x.image();
        x.blow(4);
        feedTwenty(x);
        return x;
    }

    private static void feedTwenty(ThreeBreaths x) {
        x.feed(0x21212121, 0, -1, 0x63616b65, 0x20202020);
    }

    // ---- one call

    /** A call that is refused answers so, trouble() tells why, and all else stays. */
    static void refused(Supplier<ThreeBreaths> made, String call, ToLongFunction<ThreeBreaths> asked, long answer, int why) {
        ThreeBreaths x = made.get();
        int fault = x.fault();
        Check.due(call, asked.applyAsLong(x), answer);
        Check.due("trouble() behind " + call, x.trouble(), why);
        Check.due("where() behind " + call, x.where(), -1);
        Check.due("fault() behind " + call, x.fault(), fault);
        Check.same("what is told behind " + call, all(x), all(made.get()));
    }

    /** A call that only asks answers so, though the call before it was refused, and changes nothing. */
    static void asks(Supplier<ThreeBreaths> made, String call, ToLongFunction<ThreeBreaths> asked, long answer) {
        ThreeBreaths x = made.get();
        int fault = x.fault();
        x.fan(-1);
        Check.due(x, call, asked.applyAsLong(x), answer, 0);
        Check.due("where() behind " + call, x.where(), -1);
        Check.due("fault() behind " + call, x.fault(), fault);
        Check.due("once more " + call, asked.applyAsLong(x), answer);
        Check.same("what is told behind " + call, all(x), all(made.get()));
    }

    // ---- a number's bounds

    /** What lies outside of least .. most: beside it, far off, and where a shift or a narrow number would wrap round. */
    static int[] outside(int least, int most) {
        int[] tried = {least - 1, most + 1, least - 2, most + 2, least - 16, most + 16, least - 32, least + 32, most + 32, least + 64,
            least + 256, most + 256, least + 65536, most + 65536, Integer.MIN_VALUE, Integer.MIN_VALUE + least, Integer.MIN_VALUE + most,
            Integer.MAX_VALUE, Integer.MAX_VALUE - 1};
        int[] found = new int[tried.length];
        int count = 0;
        for (int value : tried) {
            if (value < least || value > most) {
                found[count] = value;
                count++;
            }
        }
        return Arrays.copyOf(found, count);
    }

    /** The call isn't refused for least and most, but for all else; with most below least it is for every number. */
    static void bounds(Supplier<ThreeBreaths> made, int least, int most, String call, Asked asked, long answer, int why) {
        for (int value : outside(least, most)) {
            refused(made, call + " of " + value, x -> asked.by(x, value), answer, why);
        }
        if (least <= most) {
            notRefused(made, call, asked, least);
            notRefused(made, call, asked, most);
        }
    }

    private static void notRefused(Supplier<ThreeBreaths> made, String call, Asked asked, int value) {
        ThreeBreaths x = made.get();
        x.fan(-1);
        asked.by(x, value);
        Check.due("trouble() behind " + call + " of " + value, x.trouble(), 0);
    }

    // ---- what an object tells

    /** All that an object tells of what it holds; it is used up by that, for all is undone and gone back to. */
    static String all(ThreeBreaths x) {
        StringBuilder told = new StringBuilder("sizes");
        for (int what = 0; what <= 10; what++) {
            told.append(' ').append(x.size(what));
        }
        told.append(" candles");
        for (int c = 0; c < x.size(0); c++) {
            told.append(' ').append(x.candle(c, 0)).append(',').append(x.candle(c, 1)).append(',').append(x.candle(c, 2));
        }
        told.append(" fans ").append(x.fans());
        for (int b = 0; b < 320 && x.fan(b) >= 0; b += 7) {
            told.append(' ').append(x.fan(b));
        }
        told.append(" best ").append(x.best(1)).append(" now ").append(now(x)).append(" undone");
        for (int i = 0; i < 21 && x.undo(); i++) {
            told.append(' ').append(now(x));
        }
        told.append(" images");
        for (int i = 0; i < 4 && x.back(i); i++) {
            told.append(' ').append(now(x));
        }
        return told.toString();
    }

    private static String now(ThreeBreaths x) {
        return x.burning() + "/" + x.dazed();
    }
}
