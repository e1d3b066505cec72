/** Promises 32 to 38: chances, best, content, what was seen, one more and one less. */
public final class ChanceTest {
    // From o: way 0 hits a, way 1 hits b, way 2 hits c.
    private static final String THREE = "cake near 0 wax 3;candle a at 2,0 plain;candle b at 2,1 plain;candle c at 2,2 plain;"
        + "place o at 0,0;person p reach 3 spread 0";

    public static void main(String[] args) {
        steady();
        shaky();
        dazedCount();
        content();
        fits();
        more();
        moreLights();
        less();
        nextCake();
        withoutCake();
        Check.end("ChanceTest");
    }

    private static void chance(ThreeBreaths x, int n, long upper, long lower) {
        Check.due(x, "chance(" + n + ", false)", x.chance(n, false), upper, 0);
        Check.due(x, "chance(" + n + ", true)", x.chance(n, true), lower, 0);
    }

    private static void mean(ThreeBreaths x, int n, long upper, long lower) {
        Check.due(x, "content(" + n + ", false)", x.content(n, false), upper, 0);
        Check.due(x, "content(" + n + ", true)", x.content(n, true), lower, 0);
    }

    private static void steady() {
        ThreeBreaths x = Check.told(THREE);
        chance(x, 1, 0, 1);
        chance(x, 2, 0, 1);
        chance(x, 3, 1, 1);
        Check.due(x, "best(1)", x.best(1), 0, 0);
        Check.due(x, "best(3)", x.best(3), 0, 0);
        x.blow(0);
        chance(x, 1, 0, 1);
        chance(x, 2, 1, 1);
        Check.due(x, "best(1)", x.best(1), 0, 0);
        Check.due(x, "best(2)", x.best(2), 1, 0);
        Check.due(x, "best(3)", x.best(3), 0, 0);
        x.blow(1);
        x.blow(2);
        chance(x, 1, 1, 1);
        chance(x, 3, 1, 1);
        Check.due(x, "best(1), none burns", x.best(1), -2, 0);
        Check.due(x, "best(3), none burns", x.best(3), -2, 0);
        Check.due(x, "best(0), none burns", x.best(0), -1, 2);
        for (int n : new int[] {0, 4, -1, Integer.MIN_VALUE, Integer.MAX_VALUE}) {
            Check.due(x, "chance(" + n + ")", x.chance(n, false), -1, 2);
            Check.due(x, "best(" + n + ")", x.best(n), -1, 2);
            Check.due(x, "content(" + n + ")", x.content(n, true), -1, 2);
        }
    }

    private static void shaky() {
        // One candle on way 0: chosen 15 it comes by the third weight, 0 by the second, 1 by the first.
        String one = "cake near 0 wax 3;candle a at 2,0 plain;place o at 0,0;person p reach 3 spread 0;shaky ";
        ThreeBreaths x = Check.told(one + "1,2,3");
        chance(x, 1, 1, 2);
        Check.due(x, "best(1), on", x.best(1), 15, 0);
        chance(x, 2, 3, 4);
        chance(x, 3, 7, 8);
        mean(x, 1, 1, 2);
        mean(x, 3, 1, 8);
        x = Check.told(one + "3,2,1");
        chance(x, 1, 1, 2);
        Check.due(x, "best(1), back", x.best(1), 1, 0);
        x = Check.told(one + "2,2,1");
        chance(x, 1, 2, 5);
        Check.due(x, "best(1), like ones", x.best(1), 0, 0);
        chance(x, 2, 16, 25);
        chance(x, 3, 98, 125);
        x = Check.told(one + "0,0,9");
        chance(x, 1, 1, 1);
        Check.due(x, "best(1), always on", x.best(1), 15, 0);
        x = Check.told(one + "9,0,0");
        Check.due(x, "best(1), always back", x.best(1), 1, 0);
        // All three of three neighbours, in three breaths: each chosen by what burns then.
        x = Check.told(THREE + ";shaky 1,1,1");
        chance(x, 1, 0, 1);
        chance(x, 2, 0, 1);
        // First choice 1 (any of the three goes out), then one of two left: choose what can hit either, 2/3; then 1/3.
        chance(x, 3, 2, 9);
        Check.due(x, "best(3)", x.best(3), 1, 0);
    }

    private static void dazedCount() {
        ThreeBreaths x = Check.told("cake near 0 wax 3;candle a at 2,0 trick;place o at 0,0;person p reach 3 spread 0;shaky 1,2,1");
        chance(x, 1, 0, 1);
        chance(x, 2, 1, 4);
        // Dazed (1/2) then out in two tries: 1/2 at first; else not dazed any more; or not dazed at first: then 1/4.
        chance(x, 3, 3, 8);
        x.blow(0);
        chance(x, 1, 1, 2);
        mean(x, 1, 1, 2);
    }

    private static void content() {
        ThreeBreaths x = Check.told(THREE);
        mean(x, 1, 2, 1);
        mean(x, 2, 1, 1);
        mean(x, 3, 0, 1);
        x = Check.told(THREE + ";shaky 1,1,1");
        mean(x, 1, 2, 1);
        // Behind the first (choice 1: surely one fewer): 2/3 for a second.
        mean(x, 2, 4, 3);
        // Every breath only lets more burn: none at all is best.
        x = Check.told("cake near 1 wax 3;candle a at 1,5 plain;candle b at 2,5 again;candle c at 3,5 again;place o at 0,5;place z at 20,20;"
            + "person p reach 9 spread 0");
        x.blow(0);
        x.light(0);
        mean(x, 1, 0, 1);
        x = Check.told("cake near 1 wax 3;candle a at 1,5 plain;candle b at 2,5 again;candle c at 3,5 again;place o at 2,6;person p reach 1 spread 0");
        x.blow(12);
        mean(x, 1, 3, 1);
        x = Check.told("cake near 1 wax 3;candle a at 1,5 plain;candle b at 3,5 again;candle c at 4,5 again;candle d at 4,6 plain;"
            + "place o at 5,5;person p reach 2 spread 0");
        x.blow(8);
        Check.due("b is out, c lit again", x.burning(), 13);
        Check.due("gain of any other", x.gain(0), -1);
        // Two behind blowing b and c again; but staying at what burns now is three: blown it is c lit again, b out: three.
        mean(x, 1, 3, 1);
    }

    private static void fits() {
        ThreeBreaths x = Check.told(THREE + ";left b,c");
        Check.due(x, "fits(1)", x.fits(1), 1, 0);
        Check.due(x, "fitAt(1, 0)", x.fitAt(1, 0), 0, 0);
        Check.due(x, "fitAt(1, 1)", x.fitAt(1, 1), -1, 1);
        Check.due(x, "fitAt(1, -1)", x.fitAt(1, -1), -1, 1);
        // 0 then any of 14 that hit neither b nor c (0 and 3 to 15), or such a one (13 without 0) then 0.
        Check.due(x, "fits(2)", x.fits(2), 27, 0);
        for (int i = 0; i < 27; i++) {
            Check.due(x, "fitAt(2, " + i + ")", x.fitAt(2, i), i < 14 ? 0 : i - 11, 0);
        }
        Check.due(x, "fitAt(2, 27)", x.fitAt(2, 27), -1, 1);
        Check.due(x, "fits(0)", x.fits(0), -1, 2);
        Check.due(x, "fits(3)", x.fits(3), -1, 2);
        Check.due(x, "fitAt(0, 0)", x.fitAt(0, 0), -1, 2);
        Check.due(x, "fitAt(3, 0)", x.fitAt(3, 0), -1, 2);
        // From all burning on, whatever burns now.
        x.blow(1);
        Check.due(x, "fits(1) then", x.fits(1), 1, 0);
        x = Check.told(THREE + ";left a,b,c");
        Check.due(x, "fits(1), all left", x.fits(1), 13, 0);
        Check.due(x, "fitAt(1, 0), all left", x.fitAt(1, 0), 3, 0);
        x = Check.told(THREE + ";left none");
        Check.due(x, "fits(2), none left", x.fits(2), 0, 0);
        Check.due(x, "fitAt(2, 0), none left", x.fitAt(2, 0), -1, 1);
        x = Check.told(THREE);
        Check.due(x, "fits(1), not told", x.fits(1), -1, 6);
        Check.due(x, "fits(0), not told", x.fits(0), -1, 2);
        Check.due(x, "fitAt(1, -1), not told", x.fitAt(1, -1), -1, 6);
        Check.due(x, "fitAt(5, 0), not told", x.fitAt(5, 0), -1, 2);
    }

    private static void more() {
        ThreeBreaths x = Check.told(THREE + ";spot s at 1,0;spot t at 0,2;spot u at 20,20;spot v at 0,0");
        Check.due(x, "more(0), on the way", x.more(0), 3, 0);
        Check.due(x, "more(1), a breath more", x.more(1), 4, 0);
        Check.due(x, "more(2), out of reach", x.more(2), -2, 0);
        Check.due(x, "more(3), at the place", x.more(3), 3, 0);
        Check.due(x, "more(4)", x.more(4), -1, 1);
        Check.due(x, "more(-1)", x.more(-1), -1, 1);
        x.blow(0);
        Check.due(x, "more(0), a is out", x.more(0), 3, 0);
        Check.due(x, "more(3), a is out", x.more(3), 2, 0);
        x.blow(1);
        x.blow(2);
        Check.due(x, "more(0), none burns else", x.more(0), 1, 0);
        Check.due(x, "fewest() without it", x.fewest(), 0, 0);
        Check.due(x, "burning() without it", x.burning(), 0, 0);
        // It lights its neighbours again, too.
        x = Check.told("cake near 1 wax 3;candle a at 3,0 again;place o at 0,0;place m at 3,3;person p reach 3 spread 0;"
            + "spot s at 3,1;spot t at 2,1;spot u at 3,0");
        Check.due("fewest()", x.fewest(), 1);
        Check.due("more(0): from m both go at once", x.more(0), 1);
        Check.due("more(1): not near, but no fan has it", x.more(1), 2);
        Check.due("more(2): both at one point", x.more(2), 1);
        x = Check.told("cake near 2 wax 3;candle a at 3,0 again;place o at 0,0;person p reach 3 spread 0;spot s at 2,1");
        Check.due("more(0): it first, then a", x.more(0), 2);
        x.blow(0);
        Check.due("more(0): a is out, lit by it only if it stays", x.more(0), 1);
    }

    /** Now t is dazed: going on with it in a breath that puts out a, too, helps only if nothing near lights a again. */
    private static void moreLights() {
        String text = "cake near 3 wax 3;candle t at 1,0 trick;candle a at 2,0 again;place o at 0,0;person p reach 3 spread 0;spot s at 0,1;"
            + "spot z at 0,2";
        ThreeBreaths x = Check.told(text);
        x.blow(0);
        Check.due("t is dazed", x.dazed(), 1);
        Check.due("fewest()", x.fewest(), 1);
        Check.due("more(0): the guest lights a", x.more(0), 3);
        Check.due("more(1): the guest lights a", x.more(1), 3);
        x = Check.told(text.replace("near 3", "near 1"));
        x.blow(0);
        Check.due("more(0), not near", x.more(0), 2);
    }

    private static void less() {
        ThreeBreaths x = Check.told(THREE.replace("person p", "place m at 3,2;person q reach 1 spread 0;person p"));
        Check.due(x, "fewest()", x.fewest(), 3, 0);
        Check.due(x, "less(0, 0)", x.less(0, 0), 2, 0);
        Check.due(x, "less(0, 2)", x.less(0, 2), 2, 0);
        Check.due(x, "less(1, 0)", x.less(1, 0), 3, 0);
        Check.due(x, "less(1, 1)", x.less(1, 1), 3, 0);
        Check.due(x, "less(2, 0)", x.less(2, 0), 3, 0);
        Check.due(x, "less(2, 1)", x.less(2, 1), -2, 0);
        for (int sort = -1; sort < 5; sort++) {
            Check.due(x, "less(" + sort + ", -1)", x.less(sort, -1), -1, 1);
            Check.due(x, "less(" + sort + ", 3)", x.less(sort, 3), -1, 1);
        }
        Check.due(x, "less(3, 0)", x.less(3, 0), -1, 1);
        Check.due(x, "less(-1, 0)", x.less(-1, 0), -1, 1);
        // What lights another and can't be blown out: without it all is easy.
        x = Check.told("cake near 9 wax 3;candle a at 1,0 again;candle b at 0,9 plain;candle c at 2,0 again;place o at 0,0;person p reach 3 spread 0");
        Check.due(x, "fewest(), spared one", x.fewest(), -2, 0);
        Check.due(x, "less(0, 1)", x.less(0, 1), 1, 0);
        Check.due(x, "less(0, 0)", x.less(0, 0), -2, 0);
        Check.due(x, "less(1, 0), the only one", x.less(1, 0), -2, 0);
        // An again one that isn't there lights no more, even if it was out.
        x = Check.told("cake near 1 wax 3;candle a at 3,0 again;candle b at 3,1 plain;place o at 0,0;place m at 5,1;person p reach 3 spread 0");
        Check.due("fewest()", x.fewest(), 2);
        Check.due("less(0, 0)", x.less(0, 0), 1);
        Check.due("less(0, 1)", x.less(0, 1), 1);
        // One that no fan has lights again between two breaths, unless it isn't there; asked for, it is there as before.
        x = Check.told("cake near 2 wax 3;candle a at 1,1 again;candle b at 1,0 plain;candle c at 0,1 plain;place o at 0,0;person p reach 1 spread 0");
        Check.due("fewest(), a is spared", x.fewest(), -2);
        Check.due("less(0, 0), two breaths", x.less(0, 0), 2);
        Check.due("less(0, 1)", x.less(0, 1), -2);
        x.blow(0);
        Check.due("a burns on", x.burning(), 5);
        x = Check.told("cake near 2 wax 3;candle a at 2,0 again;candle b at 1,0 plain;candle c at 0,1 plain;place o at 0,0;person p reach 2 spread 0");
        Check.due("fewest(), c first", x.fewest(), 2);
        Check.due("less(0, 0)", x.less(0, 0), 2);
        x.blow(0);
        Check.due("c is too far from a", x.burning(), 4);
        x = Check.told("cake near 2 wax 3;candle a at 1,0 again;candle b at 1,1 plain;place o at 0,0;person p reach 1 spread 0");
        Check.due("less(0, 0), b is spared", x.less(0, 0), -2);
        Check.due("blow(0): b lights a again as before", x.blow(0), 2);
        // A dazed one that isn't there.
        x = Check.told("cake near 1 wax 3;candle a at 1,0 trick;candle b at 2,0 trick;place o at 0,0;person p reach 3 spread 0");
        x.blow(0);
        Check.due("less(0, 0), dazed", x.less(0, 0), 1);
        Check.due("less(0, 1), dazed", x.less(0, 1), 1);
        x.blow(0);
        Check.due("less(1, 0), none burns", x.less(1, 0), 0);
        Check.due("less(2, 0), none burns", x.less(2, 0), 0);
        Check.due("less(0, 0), none burns", x.less(0, 0), 0);
    }

    /** What was worked out for one cake must not be told of the next. */
    private static void nextCake() {
        ThreeBreaths x = Check.told(THREE + ";left none");
        chance(x, 2, 0, 1);
        mean(x, 2, 1, 1);
        Check.due(x, "fits(2)", x.fits(2), 0, 0);
        Check.due(x, "less(0, 0)", x.less(0, 0), 2, 0);
        Check.cake(x, THREE.replace("spread 0", "spread 30") + ";left none");
        chance(x, 2, 1, 1);
        mean(x, 2, 0, 1);
        Check.due(x, "fits(1), next cake", x.fits(1) > 0, true, 0);
        Check.due(x, "fewest(), next cake", x.fewest(), 1, 0);
        Check.due(x, "team(), next cake", x.team(), 1, 0);
        Check.cake(x, THREE);
        Check.due(x, "fewest(), the cake behind it", x.fewest(), 3, 0);
        Check.due(x, "row(2), the cake behind it", x.row(2), 2, 0);
        Check.due(x, "team(), the cake behind it", x.team(), -2, 0);
    }

    private static void withoutCake() {
        ThreeBreaths x = new ThreeBreaths();
        Check.due(x, "chance(1)", x.chance(1, false), -1, 1);
        Check.due(x, "chance(9)", x.chance(9, true), -1, 1);
        Check.due(x, "best(1)", x.best(1), -1, 1);
        Check.due(x, "best(9)", x.best(9), -1, 1);
        Check.due(x, "content(1)", x.content(1, false), -1, 1);
        Check.due(x, "content(9)", x.content(9, true), -1, 1);
        Check.due(x, "fits(1)", x.fits(1), -1, 1);
        Check.due(x, "fits(9)", x.fits(9), -1, 1);
        Check.due(x, "fitAt(1, 0)", x.fitAt(1, 0), -1, 1);
        Check.due(x, "more(0)", x.more(0), -1, 1);
        Check.due(x, "less(0, 0)", x.less(0, 0), -1, 1);
    }
}
