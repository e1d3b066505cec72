import java.util.function.Supplier;

/** Promises 32 to 38: chances, best, content, what was seen, one more and one less. */
public final class Promise32To38Test {
    // From o: way 0 hits a, way 1 hits b, way 2 hits c.
    private static final String THREE = "cake near 0 wax 3;candle a at 2,0 plain;candle b at 2,1 plain;candle c at 2,2 plain;"
        + "place o at 0,0;person p reach 3 spread 0";
    // Ten candles at one point, hit by way 0 alone.
    private static final String TEN = ten();

    public static void main(String[] args) {
        Sentences.run(Promise32To38Test.class);
    }

    private static String ten() {
        StringBuilder text = new StringBuilder("cake near 0 wax 1;place o at 0,0;person p reach 1 spread 0");
        for (int i = 0; i < 10; i++) {
            text.append(";candle c").append((char) ('a' + i)).append(" at 1,0 plain");
        }
        return text.toString();
    }

    private static Supplier<ThreeBreaths> told(String text, int... blown) {
        return () -> {
            ThreeBreaths x = Check.told(text);
            for (int breath : blown) {
                x.blow(breath);
            }
            return x;
        };
    }

    private static void chance(Supplier<ThreeBreaths> made, int n, long upper, long lower) {
        Refusals.asks(made, "chance(" + n + ", false)", x -> x.chance(n, false), upper);
        Refusals.asks(made, "chance(" + n + ", true)", x -> x.chance(n, true), lower);
    }

    private static void mean(Supplier<ThreeBreaths> made, int n, long upper, long lower) {
        Refusals.asks(made, "content(" + n + ", false)", x -> x.content(n, false), upper);
        Refusals.asks(made, "content(" + n + ", true)", x -> x.content(n, true), lower);
    }

    // ---- 32

    @Says("CHANCE (n 1 .. 3) in lowest terms, the upper WHOLE, or the lower.")
    static void promise32_chance() {
        chance(told(THREE), 1, 0, 1);
        chance(told(THREE), 2, 0, 1);
        chance(told(THREE), 3, 1, 1);
        chance(told(THREE, 0), 2, 1, 1);
        chance(told(THREE, 0, 1, 2), 1, 1, 1);
        chance(told(THREE, 0, 1, 2), 3, 1, 1);
        // One of three neighbours goes out by any choice; then one of two by 2/3; then one by 1/3.
        chance(told(THREE + ";shaky 1,1,1"), 2, 0, 1);
        chance(told(THREE + ";shaky 1,1,1"), 3, 2, 9);
        chance(told(THREE + ";shaky 9,9,9"), 3, 2, 9);
    }

    @Says("in lowest terms, the upper WHOLE, or the lower.")
    static void promise32_inLowestTerms() {
        int[][] shaky = {{1, 2, 3, 1, 2}, {2, 2, 1, 2, 5}, {9, 9, 9, 1, 3}, {8, 9, 9, 9, 26}, {9, 9, 8, 9, 26}, {0, 0, 9, 1, 1}, {9, 0, 0, 1, 1},
            {0, 7, 0, 1, 1}, {3, 6, 0, 2, 3}, {4, 4, 4, 1, 3}, {6, 9, 3, 1, 2}};
        for (int[] s : shaky) {
            String text = TEN + ";shaky " + s[0] + "," + s[1] + "," + s[2];
            long missed = s[4] - s[3];
            chance(told(text), 1, s[3], s[4]);
            chance(told(text), 2, (long) s[4] * s[4] - missed * missed, (long) s[4] * s[4]);
            chance(told(text), 3, (long) s[4] * s[4] * s[4] - missed * missed * missed, (long) s[4] * s[4] * s[4]);
        }
    }

    @Says("-1: 1 (no CAKE); 2.")
    static void promise32_refused() {
        for (boolean lower : new boolean[] {false, true}) {
            Refusals.bounds(Refusals::none, 0, -1, "chance(*, " + lower + ")", (x, n) -> x.chance(n, lower), -1, 1);
            Refusals.refused(Refusals::none, "chance(1, " + lower + ")", x -> x.chance(1, lower), -1, 1);
            Refusals.bounds(Refusals::small, 1, 3, "chance(*, " + lower + ")", (x, n) -> x.chance(n, lower), -1, 2);
            Refusals.bounds(Refusals::full, 1, 3, "chance(*, " + lower + ")", (x, n) -> x.chance(n, lower), -1, 2);
        }
    }

    // ---- 33

    @Says("BEST (n 1 .. 3)")
    static void promise33_best() {
        int[] want = {0, 0, 0};
        int[] aOut = {0, 1, 0};
        for (int n = 1; n <= 3; n++) {
            int breaths = n;
            Refusals.asks(told(THREE), "best(" + n + ")", x -> x.best(breaths), want[n - 1]);
            Refusals.asks(told(THREE, 0), "best(" + n + "), a out", x -> x.best(breaths), aOut[n - 1]);
        }
        Refusals.asks(told(THREE, 0, 2), "best(1), b", x -> x.best(1), 1);
        Refusals.asks(told(THREE + ";shaky 1,1,1"), "best(3), any of three", x -> x.best(3), 1);
        Refusals.asks(told(TEN + ";shaky 1,2,3"), "best(1), going on", x -> x.best(1), 15);
        Refusals.asks(told(TEN + ";shaky 3,2,1"), "best(1), going back", x -> x.best(1), 1);
        // The last breath of all.
        String last = "cake near 0 wax 3;candle a at 9,8 plain;place o at 0,0;place m at 7,9;person p reach 1 spread 0;person q reach 3 spread 0";
        Refusals.asks(told(last), "best(1), the last one", x -> x.best(1), 63);
        Refusals.asks(told(last), "best(2), any ahead of it", x -> x.best(2), 0);
    }

    @Says("-2 if none burns.")
    static void promise33_noneBurns() {
        for (int n = 1; n <= 3; n++) {
            int breaths = n;
            Refusals.asks(told(THREE, 0, 1, 2), "best(" + n + ")", x -> x.best(breaths), -2);
            Refusals.asks(told(TEN + ";shaky 1,2,3", 0, 15, 1), "best(" + n + "), shaky", x -> x.best(breaths), -2);
        }
        Refusals.bounds(told(THREE, 0, 1, 2), 1, 3, "best, none burns", ThreeBreaths::best, -1, 2);
    }

    @Says("NONE: 1 (no CAKE); 2.")
    static void promise33_refused() {
        Refusals.bounds(Refusals::none, 0, -1, "best", ThreeBreaths::best, -1, 1);
        Refusals.refused(Refusals::none, "best(1)", x -> x.best(1), -1, 1);
        Refusals.bounds(Refusals::small, 1, 3, "best", ThreeBreaths::best, -1, 2);
        Refusals.bounds(Refusals::full, 1, 3, "best", ThreeBreaths::best, -1, 2);
    }

    // ---- 34

    @Says("CONTENT (n 1 .. 3) in lowest terms, the upper WHOLE, or the lower.")
    static void promise34_content() {
        mean(told(THREE), 1, 2, 1);
        mean(told(THREE), 2, 1, 1);
        mean(told(THREE), 3, 0, 1);
        mean(told(THREE, 0, 1, 2), 1, 0, 1);
        mean(told(THREE, 0, 1, 2), 3, 0, 1);
        mean(told(THREE + ";shaky 1,1,1"), 1, 2, 1);
        // Behind one that surely goes out, one of two by 2/3.
        mean(told(THREE + ";shaky 1,1,1"), 2, 4, 3);
        // Ten, all at once by a half.
        mean(told(TEN + ";shaky 1,2,3"), 1, 5, 1);
        mean(told(TEN + ";shaky 1,2,3"), 2, 5, 2);
        mean(told(TEN + ";shaky 1,2,3"), 3, 5, 4);
        // By 9 of 26: lowest terms of 10 times 17/26.
        mean(told(TEN + ";shaky 9,9,8"), 1, 85, 13);
        mean(told(TEN + ";shaky 9,9,8"), 2, 10 * 17 * 17 / 2, 26 * 26 / 2);
        mean(told(TEN + ";shaky 9,9,8"), 3, 10 * 17 * 17 * 17 / 2, 26 * 26 * 26 / 2);
    }

    @Says("-1: 1 (no CAKE); 2.")
    static void promise34_refused() {
        for (boolean lower : new boolean[] {false, true}) {
            Refusals.bounds(Refusals::none, 0, -1, "content(*, " + lower + ")", (x, n) -> x.content(n, lower), -1, 1);
            Refusals.refused(Refusals::none, "content(1, " + lower + ")", x -> x.content(1, lower), -1, 1);
            Refusals.bounds(Refusals::small, 1, 3, "content(*, " + lower + ")", (x, n) -> x.content(n, lower), -1, 2);
            Refusals.bounds(Refusals::full, 1, 3, "content(*, " + lower + ")", (x, n) -> x.content(n, lower), -1, 2);
        }
    }

    // ---- 35, 36

    @Says("FITS: how many.")
    static void promise35_fits() {
        Refusals.asks(told(THREE + ";left b,c"), "fits(1)", x -> x.fits(1), 1);
        Refusals.asks(told(THREE + ";left b,c"), "fits(2)", x -> x.fits(2), 27);
        Refusals.asks(told(THREE + ";left b,c", 1), "fits(1), whatever burns", x -> x.fits(1), 1);
        Refusals.asks(told(THREE + ";left a,b,c"), "fits(1), all left", x -> x.fits(1), 13);
        Refusals.asks(told(THREE + ";left a,b,c"), "fits(2), all left", x -> x.fits(2), 169);
        Refusals.asks(told(THREE + ";left none"), "fits(1), none left", x -> x.fits(1), 0);
        Refusals.asks(told(THREE + ";left none"), "fits(2), none left", x -> x.fits(2), 0);
        // As many as there can be: every one of 320 breaths has all.
        StringBuilder most = new StringBuilder("cake near 0 wax 1;candle a at 5,5 plain;left none");
        for (int i = 0; i < 5; i++) {
            most.append(";place o").append((char) ('a' + i)).append(" at 5,5");
        }
        for (int i = 0; i < 4; i++) {
            most.append(";person p").append((char) ('a' + i)).append(" reach 1 spread 0");
        }
        Refusals.asks(told(most.toString()), "fits(1), all", x -> x.fits(1), 320);
        Refusals.asks(told(most.toString()), "fits(2), all", x -> x.fits(2), 320 * 320);
        Refusals.asks(told(most.toString()), "fitAt(2), the last", x -> x.fitAt(2, 320 * 320 - 1), 319);
        Refusals.bounds(told(most.toString()), 0, 320 * 320 - 1, "fitAt(2, *)", (x, i) -> x.fitAt(2, i), -1, 1);
    }

    @Says("FITS: how many.")
    static void promise35_fitsOfOneCakeAndTheNext() {
        // All but z light again behind every breath: every row fits. Of the next cake, with fewer fans, few do.
        String every = "cake near 20 wax 1;candle z at 9,9 plain;candle a at 1,0 again;candle b at 1,1 again;candle c at 0,1 again;"
            + "candle d at 2,1 again;candle e at 1,2 again;place o at 0,0;person p reach 3 spread 0;left a,b,c,d,e,z";
        ThreeBreaths x = new ThreeBreaths();
        for (int i = 0; i < 3; i++) {
            Check.cake(x, every);
            Check.due("fits(1), every one", x.fits(1), 16);
            Check.due("fits(2), every one", x.fits(2), 256);
            Check.due("fitAt(2, 255), every one", x.fitAt(2, 255), 15);
            Check.cake(x, THREE + ";left b,c");
            Check.due("fits(1) of the next", x.fits(1), 1);
            Check.due("fits(2) of the next", x.fits(2), 27);
            Check.due("fits(1) of the next once more", x.fits(1), 1);
            Check.due("fitAt(1, 1) of the next", x.fitAt(1, 1), -1);
        }
    }

    @Says("NONE: 1 (no CAKE); 2; 6 (nothing is told as left).")
    static void promise35_refused() {
        Refusals.bounds(Refusals::none, 0, -1, "fits", ThreeBreaths::fits, -1, 1);
        Refusals.refused(Refusals::none, "fits(1)", x -> x.fits(1), -1, 1);
        Refusals.bounds(Refusals::full, 1, 2, "fits", ThreeBreaths::fits, -1, 2);
        // Nothing is told as left: a wrong number is refused ahead of that.
        for (int n : Refusals.outside(1, 2)) {
            Refusals.refused(Refusals::small, "fits(" + n + "), not told", x -> x.fits(n), -1, 2);
        }
        for (int n = 1; n <= 2; n++) {
            int breaths = n;
            Refusals.refused(Refusals::small, "fits(" + n + "), not told", x -> x.fits(breaths), -1, 6);
        }
        // Told as none is told.
        Refusals.bounds(told(THREE + ";left none"), 1, 2, "fits, left none", ThreeBreaths::fits, -1, 2);
    }

    @Says("The first BREATH of the i-th of FITS, by numbers of BREATHS, the first ahead.")
    static void promise36_fitAt() {
        Refusals.asks(told(THREE + ";left b,c"), "fitAt(1, 0)", x -> x.fitAt(1, 0), 0);
        Refusals.asks(told(THREE + ";left a,c"), "fitAt(1, 0)", x -> x.fitAt(1, 0), 1);
        ThreeBreaths x = Check.told(THREE + ";left b,c");
        // 0 and then one of 14; then each of 3 .. 15 and then 0.
        for (int i = 0; i < 27; i++) {
            Check.due(x, "fitAt(2, " + i + ")", x.fitAt(2, i), i < 14 ? 0 : i - 11, 0);
        }
        x = Check.told(THREE + ";left b");
        Check.due("0 and then 2", x.fitAt(2, 0), 0);
        Check.due("2 and then 0", x.fitAt(2, 1), 2);
        // Of like breaths each is one.
        x = Check.told(THREE + ";left b,c;place m at 0,0;person q reach 3 spread 0");
        int[] first = {0, 16, 32, 48};
        Check.due("fits(1) of four like ones", x.fits(1), 4);
        for (int i = 0; i < 4; i++) {
            Check.due("fitAt(1, " + i + ") of four like ones", x.fitAt(1, i), first[i]);
        }
    }

    @Says("NONE: likewise; 1 (i).")
    static void promise36_refused() {
        Refusals.bounds(Refusals::none, 0, -1, "fitAt(*, 0)", (x, n) -> x.fitAt(n, 0), -1, 1);
        Refusals.bounds(Refusals::none, 0, -1, "fitAt(1, *)", (x, i) -> x.fitAt(1, i), -1, 1);
        Supplier<ThreeBreaths> left = told(THREE + ";left b,c");
        Refusals.bounds(left, 1, 2, "fitAt(*, 0)", (x, n) -> x.fitAt(n, 0), -1, 2);
        Refusals.bounds(left, 0, 0, "fitAt(1, *)", (x, i) -> x.fitAt(1, i), -1, 1);
        Refusals.bounds(left, 0, 26, "fitAt(2, *)", (x, i) -> x.fitAt(2, i), -1, 1);
        Refusals.bounds(told(THREE + ";left none"), 0, -1, "fitAt(2, *)", (x, i) -> x.fitAt(2, i), -1, 1);
        // A wrong n ahead of what is told, and both ahead of a wrong i.
        Refusals.refused(left, "fitAt(3, -1)", x -> x.fitAt(3, -1), -1, 2);
        Refusals.refused(left, "fitAt(0, 27)", x -> x.fitAt(0, 27), -1, 2);
        Refusals.refused(told(THREE), "fitAt(3, 0), not told", x -> x.fitAt(3, 0), -1, 2);
        for (int i : new int[] {0, 1, -1, Integer.MIN_VALUE, Integer.MAX_VALUE}) {
            Refusals.refused(told(THREE), "fitAt(1, " + i + "), not told", x -> x.fitAt(1, i), -1, 6);
            Refusals.refused(told(THREE), "fitAt(2, " + i + "), not told", x -> x.fitAt(2, i), -1, 6);
        }
    }

    // ---- 37

    @Says("MORE.")
    static void promise37_more() {
        String text = THREE + ";spot s at 1,0;spot t at 0,2;spot u at 20,20;spot v at 0,0";
        int[] all = {3, 4, -2, 3};
        int[] aOut = {3, 3, -2, 2};
        for (int spot = 0; spot < 4; spot++) {
            int asked = spot;
            Refusals.asks(told(text), "more(" + spot + ")", x -> x.more(asked), all[spot]);
            Refusals.asks(told(text, 0), "more(" + spot + "), a out", x -> x.more(asked), aOut[spot]);
        }
        // At the same point as another, in a fan of its own, from another place, and by ten others.
        Refusals.asks(told(THREE + ";spot s at 2,0"), "more(0), beside a", x -> x.more(0), 3);
        Refusals.asks(told(TEN + ";spot s at 1,0"), "more(0), the eleventh", x -> x.more(0), 1);
        Refusals.asks(told(TEN + ";spot s at 0,1"), "more(0), the eleventh alone", x -> x.more(0), 2);
        Refusals.asks(told(TEN + ";spot s at 0,1", 0), "more(0), it alone", x -> x.more(0), 1);
        Refusals.asks(told(THREE + ";spot s at 9,9;place m at 9,8"), "more(0), from another place", x -> x.more(0), 4);
    }

    @Says("if a plain candle burnt there, too, from all others as they are NOW")
    static void promise37_allOthersAsTheyAreNow() {
        // It lights the again ones that are out: two breaths lie between it and its end.
        ThreeBreaths x = Check.told("cake near 2 wax 3;candle a at 3,0 again;place o at 0,0;person p reach 3 spread 0;spot s at 2,1;spot t at 3,0");
        x.blow(0);
        Check.due("none burns", x.burning(), 0);
        Check.due("more(0): out ahead of lighting a", x.more(0), 1);
        Check.due("more(1): both at one point", x.more(1), 1);
        x.all();
        Check.due("more(0), a burns: first itself, then a", x.more(0), 2);
        Check.due("more(1), a burns: both at once", x.more(1), 1);
        // Dazed it is dazed still.
        x = Check.told("cake near 0 wax 3;candle a at 1,0 trick;place o at 0,0;person p reach 3 spread 0;spot s at 2,0;spot t at 0,1");
        Check.due("more(0), with a twice", x.more(0), 2);
        Check.due("more(1), apart", x.more(1), 3);
        x.blow(0);
        Check.due("more(0), a dazed", x.more(0), 1);
        Check.due("more(1), a dazed", x.more(1), 2);
        Check.due("a is dazed still", x.dazed(), 1);
    }

    @Says("NONE: 1.")
    static void promise37_noSuchSpot() {
        Refusals.bounds(Refusals::none, 0, -1, "more", ThreeBreaths::more, -1, 1);
        Refusals.bounds(Refusals::small, 0, -1, "more", ThreeBreaths::more, -1, 1);
        Refusals.refused(Refusals::small, "more(0), no spot", x -> x.more(0), -1, 1);
        Refusals.bounds(Refusals::full, 0, 3, "more", ThreeBreaths::more, -1, 1);
    }

    // ---- 38

    private static final String TWO = THREE.replace("place o", "place m at 4,1;place o").replace("person p", "person q reach 1 spread 0;person p");

    private static void less(String name, Supplier<ThreeBreaths> made, int sort, int... want) {
        for (int i = 0; i < want.length; i++) {
            int asked = i;
            Refusals.asks(made, "less(" + sort + ", " + i + "), " + name, x -> x.less(sort, asked), want[i]);
        }
    }

    @Says("LESS (sort 0: a candle, 1: a place, 2: a person)")
    static void promise38_less() {
        less("each needed", told(THREE), 0, 2, 2, 2);
        less("the only place", told(THREE), 1, -2);
        less("the only person", told(THREE), 2, -2);
        less("of two places", told(TWO), 1, 3, 3);
        less("of two people", told(TWO), 2, 3, -2);
        less("a out", told(TWO, 48), 0, 2, 1, 1);
        less("a out, of two places", told(TWO, 48), 1, 2, 2);
        // None burns: nobody is needed, not even the only ones.
        less("none burns", told(THREE, 0, 1, 2), 0, 0, 0, 0);
        less("none burns", told(THREE, 0, 1, 2), 1, 0);
        less("none burns", told(THREE, 0, 1, 2), 2, 0);
        // The only candle.
        less("the only candle", told(Refusals.SMALL), 0, 0);
        less("one out of every fan", told(THREE.replace("2,2", "20,20")), 0, -2, -2, 2);
    }

    @Says("(a candle: neither burns nor lights others)")
    static void promise38_withoutACandle() {
        // a lights b for ever, c as long as it burns itself.
        String chain = "cake near 1 wax 3;candle a at 5,5 plain;candle b at 6,5 again;candle c at 7,5 plain;place o at 7,6;person p reach 2 spread 0";
        less("a is out of every fan", told(chain), 0, 2, -2, -2);
        // What isn't there doesn't come back, however near to what burns.
        String star = "cake near 2 wax 3;candle a at 1,1 again;candle b at 1,0 plain;candle c at 0,1 plain;place o at 0,0;person p reach 1 spread 0";
        less("a is out of every fan, and lit", told(star), 0, 2, -2, -2);
        // It is there as before behind that.
        ThreeBreaths x = Check.told(star);
        x.less(0, 0);
        x.blow(0);
        Check.due("a burns on", x.burning(), 5);
        // A trick one, dazed, that isn't there; the other stays dazed.
        String tricks = "cake near 1 wax 3;candle a at 1,0 trick;candle b at 2,0 trick;candle c at 0,1 plain;place o at 0,0;person p reach 3 spread 0";
        less("two trick ones", told(tricks), 0, 3, 3, 2);
        less("two trick ones, dazed", told(tricks, 0), 0, 2, 2, 1);
        less("two trick ones, out", told(tricks, 0, 0), 0, 1, 1, 0);
    }

    @Says("-2 likewise.")
    static void promise38_itCantBe() {
        less("a lights b", told("cake near 9 wax 9;candle a at 1,0 again;candle b at 0,1 again;candle c at 2,0 plain;place o at 0,0;"
            + "person p reach 3 spread 0"), 0, 2, 1, -2);
        less("two out of every fan", told(THREE.replace("2,2", "20,20").replace("2,1", "19,20")), 0, -2, -2, -2);
        less("from neither place alone", told("cake near 0 wax 3;candle a at 1,0 plain;candle b at 20,19 plain;place o at 0,0;place m at 20,20;"
            + "person p reach 1 spread 0"), 1, -2, -2);
        less("by neither person alone", told("cake near 0 wax 3;candle a at 10,0 plain;candle b at 10,1 plain;place o at 0,0;"
            + "person p reach 10 spread 0;person q reach 30 spread 0;place m at 20,3"), 2, -2, -2);
    }

    @Says("NONE: 1.")
    static void promise38_noneSuch() {
        for (int sort = 0; sort < 3; sort++) {
            int asked = sort;
            int[] full = {9, 4, 3};
            Refusals.bounds(Refusals::none, 0, -1, "less(" + sort + ", *)", (x, i) -> x.less(asked, i), -1, 1);
            Refusals.bounds(Refusals::small, 0, 0, "less(" + sort + ", *)", (x, i) -> x.less(asked, i), -1, 1);
            Refusals.bounds(Refusals::full, 0, full[sort], "less(" + sort + ", *)", (x, i) -> x.less(asked, i), -1, 1);
        }
        Refusals.bounds(Refusals::none, 0, -1, "less(*, 0)", (x, sort) -> x.less(sort, 0), -1, 1);
        Refusals.bounds(Refusals::small, 0, 2, "less(*, 0)", (x, sort) -> x.less(sort, 0), -1, 1);
        Refusals.bounds(Refusals::full, 0, 2, "less(*, 0)", (x, sort) -> x.less(sort, 0), -1, 1);
    }
}
