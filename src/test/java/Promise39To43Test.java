import java.util.NoSuchElementException;

/** Promises 39 to 43: images, what is led out, sizes, trouble. */
public final class Promise39To43Test {
    // From o: way 0 hits a and b, way 4 hits c and d, all others none.
    private static final String CAKE = "cake near 1 wax 3;candle a at 1,0 plain;candle b at 2,0 trick;candle c at 0,1 again;"
        + "candle d at 0,2 plain;place o at 0,0;person p reach 3 spread 0;left a,d;spot s at 3,3;spot t at 4,4";

    public static void main(String[] args) {
        Sentences.run(Promise39To43Test.class);
    }

    private static ThreeBreaths withImages(int images) {
        ThreeBreaths x = Check.told(CAKE);
        for (int i = 0; i < images; i++) {
            x.image();
            x.blow(0);
        }
        return x;
    }

    private static long gone(ThreeBreaths x, int image) {
        return x.back(image) ? 1 : 0;
    }

    // ---- 39, 40

    @Says("An IMAGE: its number.")
    static void promise39_image() {
        ThreeBreaths x = Check.told(CAKE);
        for (int i = 0; i < 3; i++) {
            Check.due("images", x.size(9), i);
            x.fan(-1);
            Check.due(x, "image()", x.image(), i, 0);
            Check.due("images", x.size(9), i + 1);
        }
        Check.due("burning() stays", x.burning(), 15);
        Check.due("acts stay", x.size(8), 0);
        x = Check.told(CAKE);
        x.blow(0);
        x.image();
        Check.due("acts stay at an image", x.size(8), 1);
        Check.due(x, "undo() behind an image", x.undo(), true, 0);
        Check.due(x, "its image stays", x.back(0), true, 0);
        Check.due("burning() of the image", x.burning(), 14);
        Check.due("dazed() of the image", x.dazed(), 2);
    }

    @Says("NONE: 1 (no CAKE); 3.")
    static void promise39_refused() {
        Refusals.refused(Refusals::none, "image()", ThreeBreaths::image, -1, 1);
        Refusals.refused(() -> withImages(3), "a fourth image()", ThreeBreaths::image, -1, 3);
        // Going back makes no room; another cake does.
        ThreeBreaths x = withImages(3);
        x.back(0);
        Check.due(x, "image() behind back", x.image(), -1, 3);
        x.undo();
        Check.due(x, "image() behind undo", x.image(), -1, 3);
        Check.cake(x, CAKE);
        Check.due(x, "image() of another cake", x.image(), 0, 0);
    }

    @Says("All is as by an IMAGE (all IMAGES stay): true")
    static void promise40_back() {
        int[] burning = {15, 14, 12};
        int[] dazed = {0, 2, 0};
        for (int images = 1; images <= 3; images++) {
            for (int i = 0; i < images; i++) {
                ThreeBreaths x = withImages(images);
                x.fan(-1);
                Check.due(x, "back(" + i + ") of " + images, x.back(i), true, 0);
                Check.due("burning()", x.burning(), burning[i]);
                Check.due("dazed()", x.dazed(), dazed[i]);
                Check.due("acts", x.size(8), 0);
                Check.due("images stay", x.size(9), images);
                Check.due(x, "undo()", x.undo(), false, 6);
                // On to the others, and back again.
                for (int j = images - 1; j >= 0; j--) {
                    x.blow(4);
                    Check.due(x, "back(" + j + ")", x.back(j), true, 0);
                    Check.due("burning()", x.burning(), burning[j]);
                    Check.due("dazed()", x.dazed(), dazed[j]);
                }
            }
        }
    }

    @Says("All is as by an IMAGE")
    static void promise40_whatIsAskedIsAskedOfTheImage() {
        ThreeBreaths x = withImages(2);
        x.back(1);
        ThreeBreaths y = Check.told(CAKE);
        y.blow(0);
        Check.due("fewest()", x.fewest(), y.fewest());
        Check.due("gain(0)", x.gain(0), y.gain(0));
        Check.due("team()", x.team(), y.team());
        x.back(0);
        Check.due("fewest()", x.fewest(), Check.told(CAKE).fewest());
        Check.due("fewest() is another", x.fewest() != y.fewest(), true);
    }

    @Says("false: 1.")
    static void promise40_noSuchImage() {
        Refusals.bounds(Refusals::none, 0, -1, "back", Promise39To43Test::gone, 0, 1);
        for (int images = 0; images <= 3; images++) {
            int kept = images;
            Refusals.bounds(() -> withImages(kept), 0, images - 1, "back, " + images + " images", Promise39To43Test::gone, 0, 1);
        }
        // None of the cake before.
        ThreeBreaths x = withImages(3);
        Check.cake(x, CAKE);
        Check.due(x, "back(0) of another cake", x.back(0), false, 1);
    }

    // ---- 41

    @Says("The i-th candle that is out.")
    static void promise41_led() {
        ThreeBreaths x = Check.told(CAKE);
        x.blow(4);
        Check.due("led(0)", Check.led(x, 0), 2);
        Check.due("led(1)", Check.led(x, 1), 3);
        x.blow(0);
        Check.due("led(0), a out", Check.led(x, 0), 0);
        Check.due("led(1), a out", Check.led(x, 1), 2);
        Check.due("led(2), a out", Check.led(x, 2), 3);
        // b, dazed, is not out.
        Check.due("led(3), b dazed", Check.led(x, 3), -9);
        x.blow(0);
        for (int i = 0; i < 4; i++) {
            Check.due("led(" + i + "), all out", Check.led(x, i), i);
        }
        x.light(1);
        Check.due("led(1), b lit", Check.led(x, 1), 2);
        StringBuilder ten = new StringBuilder("cake near 0 wax 1;place o at 0,0;person p reach 1 spread 0");
        for (int i = 0; i < 10; i++) {
            ten.append(";candle c").append((char) ('a' + i)).append(" at 1,0 plain");
        }
        x = Check.told(ten.toString());
        x.blow(0);
        for (int i = 0; i < 10; i++) {
            Check.due("led(" + i + ") of ten", Check.led(x, i), i);
        }
        Check.due("led(10) of ten", Check.led(x, 10), -9);
    }

    private static void throwsSuch(ThreeBreaths x, int i) {
        String thrown = "nothing";
        try {
            x.led(i);
        } catch (RuntimeException e) {
            thrown = e.getClass().getName();
        }
        Check.same("led(" + i + ") throws", thrown, NoSuchElementException.class.getName());
    }

    @Says("NoSuchElementException if there is none such.")
    static void promise41_noneSuch() {
        for (int out = 0; out <= 4; out++) {
            ThreeBreaths x = Check.told(CAKE);
            for (int i = 0; i < out; i++) {
                x.blow(i == 0 ? 4 : 0);
            }
            int[] are = {0, 2, 3, 4, 4};
            for (int i : Refusals.outside(0, are[out] - 1)) {
                throwsSuch(x, i);
            }
        }
        for (int i : Refusals.outside(0, -1)) {
            throwsSuch(new ThreeBreaths(), i);
        }
        throwsSuch(new ThreeBreaths(), 0);
    }

    @Says("The i-th candle that is out. NoSuchElementException if there is none such.")
    static void promise41_itChangesNothingAndNoTrouble() {
        ThreeBreaths x = Refusals.used(CAKE);
        x.fan(-1);
        Check.led(x, 0);
        Check.due("trouble() behind led", x.trouble(), 1);
        Check.led(x, 9);
        Check.due("trouble() behind led that throws", x.trouble(), 1);
        x.burning();
        Check.led(x, -1);
        Check.due("trouble() behind led that throws", x.trouble(), 0);
        Check.same("all stays", Refusals.all(x), Refusals.all(Refusals.used(CAKE)));
    }

    // ---- 42

    private static void sizes(ThreeBreaths x, String name, int... want) {
        for (int what = 0; what < want.length; what++) {
            Check.due("size(" + what + "), " + name, x.size(what), want[what]);
        }
    }

    @Says("0 candles, 1 places, 2 spots, 3 people, 4 near, 5 wax, 6 1 if shaky is told, 7 what is left, as bits (-2 not told), "
        + "8 ACTS that can be undone, 9 IMAGES, 10 bytes of THE TAPE.")
    static void promise42_size() {
        sizes(Check.told(CAKE), "new", 4, 1, 2, 1, 1, 3, 0, 9, 0, 0, 0);
        sizes(Refusals.used(CAKE), "used", 4, 1, 2, 1, 1, 3, 0, 9, 2, 1, 20);
        sizes(Refusals.small(), "small", 1, 1, 0, 1, 2, 3, 0, -2, 2, 1, 20);
        sizes(Refusals.full(), "full", 10, 5, 4, 4, 3, 9, 1, 1023, 2, 1, 20);
        sizes(withImages(3), "three images", 4, 1, 2, 1, 1, 3, 0, 9, 3, 3, 0);
    }

    @Says("6 1 if shaky is told, 7 what is left, as bits (-2 not told)")
    static void promise42_shakyAndLeft() {
        Check.due("size(6), steady, but told", Check.told(Refusals.SMALL + ";shaky 0,1,0").size(6), 1);
        Check.due("size(6), not told", Check.told(Refusals.SMALL).size(6), 0);
        Check.due("size(7), not told", Check.told(Refusals.SMALL).size(7), -2);
        Check.due("size(7), none", Check.told(Refusals.SMALL + ";left none").size(7), 0);
        Check.due("size(7), the one", Check.told(Refusals.SMALL + ";left a").size(7), 1);
        // What is left is what was told, whatever burns.
        ThreeBreaths x = Check.told(CAKE);
        x.blow(0);
        Check.due("size(7), a out", x.size(7), 9);
    }

    @Says("8 ACTS that can be undone, 9 IMAGES, 10 bytes of THE TAPE.")
    static void promise42_actsImagesTape() {
        ThreeBreaths x = Check.told(CAKE);
        for (int i = 0; i < 25; i++) {
            Check.due("size(8)", x.size(8), Math.min(i, 20));
            x.blow(0);
        }
        for (int i = 20; i > 0; i--) {
            Check.due("size(8)", x.size(8), i);
            x.undo();
        }
        Check.due("size(8)", x.size(8), 0);
        for (int i = 0; i < 5; i++) {
            Check.due("size(9)", x.size(9), Math.min(i, 3));
            x.image();
        }
        for (int i = 0; i < 50; i++) {
            Check.due("size(10)", x.size(10), Math.min(20 * i, 900));
            x.feed(0, 0, 0, 0, 0);
        }
    }

    @Says("NONE for others; 0 for what there isn't.")
    static void promise42_noneForOthersAndZeroForWhatThereIsnt() {
        for (int what : Refusals.outside(0, 10)) {
            Check.due("size(" + what + ")", Refusals.small().size(what), -1);
            Check.due("size(" + what + ") of none", new ThreeBreaths().size(what), -1);
        }
        sizes(new ThreeBreaths(), "new", 0, 0, 0, 0, 0, 0, 0, 0, 0, 0, 0);
        sizes(Refusals.none(), "no cake", 0, 0, 0, 0, 0, 0, 0, 0, 0, 0, 20);
        ThreeBreaths x = new ThreeBreaths();
        Check.cake(x, CAKE + "!");
        sizes(x, "no cake but a fault", 0, 0, 0, 0, 0, 0, 0, 0, 0, 0, 0);
    }

    @Says("NONE for others")
    static void promise42_sizeHasNoNumberOfTrouble() {
        ThreeBreaths x = Refusals.small();
        x.undo();
        x.undo();
        x.undo();
        for (int what = -2; what <= 12; what++) {
            x.size(what);
            Check.due("trouble() behind size(" + what + ")", x.trouble(), 6);
        }
        x.burning();
        x.size(11);
        Check.due("trouble() behind size(11)", x.trouble(), 0);
    }

    // ---- 43

    @Says("TROUBLE.")
    static void promise43_trouble() {
        ThreeBreaths x = new ThreeBreaths();
        Check.due("trouble() ahead of all", x.trouble(), 0);
        x.undo();
        for (int i = 0; i < 3; i++) {
            Check.due("trouble() asked once more", x.trouble(), 6);
        }
        x.all();
        Check.due("trouble() of the latest", x.trouble(), 1);
        x.cake(1);
        Check.due("trouble() of the latest", x.trouble(), 2);
        Check.cake(x, "cake");
        Check.due("trouble() of the latest", x.trouble(), 4);
        Check.cake(x, CAKE);
        Check.due("trouble() of the latest", x.trouble(), 0);
        x.light(0);
        Check.due("trouble() of the latest", x.trouble(), 5);
    }
}
