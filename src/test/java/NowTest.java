/** Promises 13 to 20 and 39 to 42: what burns now, acts, undo, images, sizes. */
public final class NowTest {
    // From o: way 0 hits a and b, way 4 hits c and d, way 8 and all others none.
    private static final String CAKE = "cake near 1 wax 3;candle a at 1,0 plain;candle b at 2,0 trick;candle c at 0,1 again;"
        + "candle d at 0,2 plain;place o at 0,0;person p reach 3 spread 0;left a,d;spot s at 3,3;spot t at 4,4";

    public static void main(String[] args) {
        breaths();
        relights();
        chainsDoNotRun();
        tricks();
        gains();
        lightAndAll();
        undo();
        images();
        led();
        sizes();
        withoutCake();
        Check.end("NowTest");
    }

    private static void state(ThreeBreaths x, String when, int burning, int dazed) {
        Check.due(x, "burning() " + when, x.burning(), burning, 0);
        Check.due(x, "dazed() " + when, x.dazed(), dazed, 0);
    }

    private static void breaths() {
        ThreeBreaths x = Check.told(CAKE);
        state(x, "at first", 15, 0);
        Check.due(x, "blow(0)", x.blow(0), 3, 0);
        state(x, "behind way 0", 14, 2);
        Check.due(x, "blow(0)", x.blow(0), 2, 0);
        state(x, "behind way 0 twice", 12, 0);
        Check.due(x, "blow(4)", x.blow(4), 0, 0);
        state(x, "at the end", 0, 0);
        Check.due(x, "blow(4)", x.blow(4), 0, 0);
        Check.due(x, "blow(16)", x.blow(16), -1, 1);
        Check.due(x, "blow(-1)", x.blow(-1), -1, 1);
        Check.due("acts", x.size(8), 4);
    }

    private static void relights() {
        // c at 0,3 is again; d beside it burns on, and so lights it.
        ThreeBreaths x = Check.told("cake near 2 wax 3;candle c at 0,3 again;candle d at 2,3 plain;place o at 0,0;place m at 5,3;"
            + "person p reach 9 spread 0");
        Check.due("blow up", x.blow(x.breath(0, 0, 4)), 2);
        Check.due("blow both from the side", x.blow(x.breath(0, 1, 8)), 0);
        x.light(1);
        state(x, "behind light", 2, 0);
        Check.due("blow past both: it lights again", x.blow(x.breath(0, 0, 0)), 2);
        x = Check.told("cake near 1 wax 3;candle c at 0,3 again;candle d at 2,3 plain;place o at 0,0;person p reach 9 spread 0");
        Check.due("not near enough", x.blow(4), 1);
    }

    private static void chainsDoNotRun() {
        // a burns; b, c, d are out and again, each near the one before it: one more lights behind each breath.
        ThreeBreaths x = Check.told("cake near 1 wax 3;candle a at 1,5 plain;candle b at 2,5 again;candle c at 3,5 again;"
            + "candle d at 4,5 again;place o at 0,5;place z at 0,0;person p reach 9 spread 0");
        int along = x.breath(0, 0, 0);
        int past = x.breath(0, 1, 0);
        Check.due("all out", x.blow(along), 0);
        x.light(0);
        state(x, "one lit", 1, 0);
        Check.due("first breath past them", x.blow(past), 2);
        state(x, "then", 3, 0);
        Check.due("second", x.blow(past), 3);
        Check.due("third", x.blow(past), 4);
        Check.due("gain below 0", x.gain(past), 0);
        x.blow(along);
        x.light(0);
        Check.due(x, "gain(past)", x.gain(past), -1, 0);
    }

    private static void tricks() {
        ThreeBreaths x = Check.told(CAKE);
        x.blow(0);
        x.blow(8);
        state(x, "a breath past it ends the daze", 14, 0);
        x.blow(0);
        state(x, "dazed anew", 14, 2);
        x.light(0);
        state(x, "light leaves the daze", 15, 2);
        x.blow(0);
        state(x, "out", 12, 0);
        x.blow(0);
        state(x, "one that is out isn't dazed", 12, 0);
        x.light(1);
        state(x, "lit, not dazed", 14, 0);
        x.blow(0);
        x.all();
        state(x, "all() ends the daze", 15, 0);
        // A trick one that holds out burns, and so lights again ones behind the same breath.
        x = Check.told("cake near 1 wax 1;candle a at 1,0 trick;candle b at 2,0 again;place o at 0,0;person p reach 9 spread 0");
        Check.due("both blown, both burn", x.blow(0), 2);
        state(x, "then", 3, 1);
        Check.due("both blown, both out", x.blow(0), 0);
        // Three trick ones, each with its own daze.
        x = Check.told("cake near 1 wax 1;candle z at 9,9 plain;candle a at 1,0 trick;candle y at 9,9 plain;candle b at 0,1 trick;"
            + "candle c at 1,1 trick;place o at 0,0;person p reach 20 spread 4");
        state(x, "three", 31, 0);
        x.blow(x.breath(0, 0, 1));
        // way 1 (2, 1): a DOT 2 CROSS -1 (10 > 8), c DOT 3 CROSS 1 (10 <= 12), z DOT 27 CROSS 9 (90 <= 108).
        Check.due("fan of way 1", x.fan(1), 1 + 4 + 16);
        state(x, "one of them", 26, 16);
        x.blow(0);
        state(x, "another", 26, 2);
        x.blow(4);
        state(x, "the third", 26, 8);
    }

    private static void gains() {
        ThreeBreaths x = Check.told(CAKE);
        Check.due(x, "gain(0)", x.gain(0), 1, 0);
        Check.due(x, "gain(4)", x.gain(4), 2, 0);
        Check.due(x, "gain(8)", x.gain(8), 0, 0);
        Check.due(x, "gain(16)", x.gain(16), -100, 1);
        Check.due(x, "gain(-1)", x.gain(-1), -100, 1);
        Check.due(x, "greedy()", x.greedy(), 4, 0);
        state(x, "asked only", 15, 0);
        x.blow(4);
        Check.due(x, "greedy() then", x.greedy(), 0, 0);
        x.blow(0);
        x.blow(0);
        Check.due(x, "greedy() when none burns", x.greedy(), 0, 0);
        // Every breath lets more burn but those that hit b or c: with b out c lights alone, with c out b does.
        x = Check.told("cake near 5 wax 3;candle a at 9,9 plain;candle b at 9,7 again;candle c at 7,9 again;place o at 9,5;place q at 9,8;"
            + "person p reach 5 spread 0");
        x.blow(x.breath(0, 0, 4));
        state(x, "a and b out, b lit again by c", 6, 0);
        x.blow(x.breath(0, 0, 6));
        state(x, "c out only to light again", 6, 0);
        Check.due(x, "greedy(), none gains", x.greedy(), 0, 0);
        Check.due(x, "gain(0)", x.gain(0), 0, 0);
        // Now every breath lets one more burn: a holds out and lights b.
        x = Check.told("cake near 1 wax 9;candle a at 1,0 trick;candle b at 2,0 again;place o at 0,0;person p reach 3 spread 0");
        x.blow(0);
        x.blow(0);
        x.light(0);
        state(x, "only a", 1, 0);
        for (int b = 0; b < 16; b++) {
            Check.due(x, "gain(" + b + "), below 0", x.gain(b), -1, 0);
        }
        Check.due(x, "greedy(), all below 0", x.greedy(), 0, 0);
        Check.due(x, "greedyEnd(), all below 0", x.greedyEnd(), 1, 0);
        Check.due(x, "few(1), all below 0", x.few(1), 2, 0);
        Check.due(x, "content(1), all below 0", x.content(1, false), 1, 0);
    }

    private static void lightAndAll() {
        ThreeBreaths x = Check.told(CAKE);
        Check.due(x, "light(0) that burns", x.light(0), false, 5);
        Check.due(x, "light(4)", x.light(4), false, 1);
        Check.due(x, "light(-1)", x.light(-1), false, 1);
        Check.due("acts", x.size(8), 0);
        x.blow(4);
        Check.due(x, "light(3)", x.light(3), true, 0);
        state(x, "lit", 11, 0);
        Check.due("acts", x.size(8), 2);
        Check.due(x, "all()", x.all(), true, 0);
        state(x, "all", 15, 0);
        Check.due(x, "all() again", x.all(), true, 0);
        Check.due("acts", x.size(8), 4);
    }

    private static void undo() {
        ThreeBreaths x = Check.told(CAKE);
        Check.due(x, "undo() of nothing", x.undo(), false, 6);
        x.blow(0);
        x.blow(4);
        x.light(2);
        x.all();
        Check.due(x, "undo() all", x.undo(), true, 0);
        state(x, "all undone", 6, 0);
        Check.due(x, "undo() light", x.undo(), true, 0);
        state(x, "light undone", 2, 0);
        Check.due(x, "undo() blow", x.undo(), true, 0);
        state(x, "the daze is back", 14, 2);
        Check.due(x, "undo() blow", x.undo(), true, 0);
        state(x, "all undone", 15, 0);
        Check.due(x, "undo()", x.undo(), false, 6);
        // 21 acts: the first one can't be undone any more.
        x.blow(0);
        for (int i = 0; i < 20; i++) {
            Check.due("acts kept", x.size(8), Math.min(20, i + 1));
            x.blow(i % 2 == 0 ? 8 : 0);
        }
        Check.due("acts kept at most", x.size(8), 20);
        for (int i = 0; i < 20; i++) {
            Check.due(x, "undo() " + i, x.undo(), true, 0);
        }
        state(x, "behind the first act", 14, 2);
        Check.due(x, "undo() of the 21st", x.undo(), false, 6);
    }

    private static void images() {
        ThreeBreaths x = Check.told(CAKE);
        Check.due(x, "back(0) without one", x.back(0), false, 1);
        Check.due(x, "image()", x.image(), 0, 0);
        x.blow(0);
        Check.due(x, "image()", x.image(), 1, 0);
        x.blow(4);
        Check.due(x, "image()", x.image(), 2, 0);
        Check.due(x, "a fourth image()", x.image(), -1, 3);
        Check.due("images", x.size(9), 3);
        Check.due("acts stay at an image", x.size(8), 2);
        Check.due(x, "back(3)", x.back(3), false, 1);
        Check.due(x, "back(-1)", x.back(-1), false, 1);
        Check.due("acts stay at a refused one", x.size(8), 2);
        Check.due(x, "back(1)", x.back(1), true, 0);
        state(x, "gone back, dazed", 14, 2);
        Check.due("nothing to undo", x.size(8), 0);
        Check.due(x, "undo()", x.undo(), false, 6);
        Check.due("images stay", x.size(9), 3);
        Check.due(x, "back(2)", x.back(2), true, 0);
        state(x, "gone on", 2, 0);
        Check.due(x, "back(0)", x.back(0), true, 0);
        state(x, "gone back", 15, 0);
    }

    private static void led() {
        ThreeBreaths x = Check.told(CAKE);
        Check.due("led(0), all burn", Check.led(x, 0), -9);
        x.blow(4);
        Check.due("led(0)", Check.led(x, 0), 2);
        Check.due("led(1)", Check.led(x, 1), 3);
        Check.due("led(2)", Check.led(x, 2), -9);
        Check.due("led(-1)", Check.led(x, -1), -9);
        Check.due("led(least)", Check.led(x, Integer.MIN_VALUE), -9);
        Check.due(x, "fan(99)", x.fan(99), -1, 1);
        Check.led(x, 0);
        Check.led(x, 5);
        Check.due("trouble() behind led", x.trouble(), 1);
    }

    private static void sizes() {
        ThreeBreaths x = Check.told(CAKE);
        int[] want = {4, 1, 2, 1, 1, 3, 0, 9, 0, 0, 0};
        for (int what = 0; what < want.length; what++) {
            Check.due("size(" + what + ")", x.size(what), want[what]);
        }
        Check.due("size(11)", x.size(11), -1);
        Check.due("size(-1)", x.size(-1), -1);
        Check.due("size(least)", x.size(Integer.MIN_VALUE), -1);
        x.undo();
        x.size(99);
        Check.due("trouble() behind size", x.trouble(), 6);
        x.feed(0, 0, 0, 0, 0);
        Check.due("size(10)", x.size(10), 20);
        x = Check.told("cake near 1 wax 3;candle a at 1,0 plain;place o at 0,0;person p reach 3 spread 0;left none;shaky 0,1,0");
        Check.due("size(6), told", x.size(6), 1);
        Check.due("size(7), none", x.size(7), 0);
        x = Check.told("cake near 1 wax 3;candle a at 1,0 plain;place o at 0,0;person p reach 3 spread 0");
        Check.due("size(6), not told", x.size(6), 0);
        Check.due("size(7), not told", x.size(7), -2);
    }

    private static void withoutCake() {
        ThreeBreaths x = new ThreeBreaths();
        Check.due(x, "burning()", x.burning(), -1, 1);
        Check.due(x, "dazed()", x.dazed(), -1, 1);
        Check.due(x, "gain(0)", x.gain(0), -100, 1);
        Check.due(x, "greedy()", x.greedy(), -1, 1);
        Check.due(x, "blow(0)", x.blow(0), -1, 1);
        Check.due(x, "light(0)", x.light(0), false, 1);
        Check.due(x, "all()", x.all(), false, 1);
        Check.due(x, "undo()", x.undo(), false, 6);
        Check.due(x, "image()", x.image(), -1, 1);
        Check.due(x, "back(0)", x.back(0), false, 1);
        Check.due("led(0)", Check.led(x, 0), -9);
        Check.due("size(7)", x.size(7), 0);
    }
}
