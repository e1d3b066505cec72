import java.util.function.Supplier;

/** Promises 21 to 31: the fewest breaths, their row, from, by, in time, walking, each and team, greed, soonest, few. */
public final class Promise21To31Test {
    // From o: way 0 hits a and b, way 4 hits c. From m: way 8 hits c, way 11 a, way 12 b.
    private static final String CAKE = "cake near 0 wax 2;candle a at 1,0 plain;candle b at 2,0 plain;candle c at 0,2 plain;"
        + "place o at 0,0;place m at 2,2;person p reach 3 spread 0;person q reach 1 spread 0";
    // b is out of every fan.
    private static final String CANT = "cake near 0 wax 9;candle a at 1,0 plain;candle b at 20,20 plain;place o at 0,0;person p reach 3 spread 0";
    private static final String TRICK = "cake near 0 wax 9;candle a at 9,0 trick;place o at 0,0;person p reach 9 spread 0;person q reach 3 spread 0";

    public static void main(String[] args) {
        Sentences.run(Promise21To31Test.class);
    }

    private static ThreeBreaths cake() {
        return Check.told(CAKE);
    }

    private static ThreeBreaths cant() {
        return Check.told(CANT);
    }

    private static ThreeBreaths blownOut() {
        ThreeBreaths x = cake();
        x.blow(0);
        x.blow(4);
        Check.due("none burns", x.burning(), 0);
        return x;
    }

    private static Supplier<ThreeBreaths> behind(String text, int breath) {
        return () -> {
            ThreeBreaths x = Check.told(text);
            x.blow(breath);
            return x;
        };
    }

    // ---- 21

    @Says("FEWEST of all BREATHS.")
    static void promise21_fewest() {
        Refusals.asks(Promise21To31Test::cake, "fewest()", ThreeBreaths::fewest, 2);
        Refusals.asks(behind(CAKE, 4), "fewest(), c out", ThreeBreaths::fewest, 1);
        Refusals.asks(behind(CAKE, 8), "fewest(), none out", ThreeBreaths::fewest, 2);
        Refusals.asks(Promise21To31Test::blownOut, "fewest(), none burns", ThreeBreaths::fewest, 0);
        Refusals.asks(Promise21To31Test::cant, "fewest(), it can't be", ThreeBreaths::fewest, -2);
        Refusals.asks(behind(CANT, 0), "fewest(), it can't be from now on", ThreeBreaths::fewest, -2);
        // Ten, each in a fan of its own; more than wax is no matter.
        StringBuilder ten = new StringBuilder("cake near 0 wax 1;place o at 10,10;person p reach 30 spread 0");
        int[] ways = {1, 0, 2, 1, 1, 1, 1, 2, 0, 1, -1, 2, -1, 1, -2, 1, -1, 0, -2, -1};
        for (int i = 0; i < 10; i++) {
            ten.append(";candle c").append((char) ('a' + i)).append(" at ").append(10 + ways[2 * i]).append(',').append(10 + ways[2 * i + 1])
                .append(i < 3 ? " trick" : " plain");
        }
        Refusals.asks(() -> Check.told(ten.toString()), "fewest(), ten, three of them trick ones", ThreeBreaths::fewest, 13);
    }

    @Says("from NOW on")
    static void promise21_fewestIsAskedAnewBehindEachAct() {
        ThreeBreaths x = cake();
        int[] want = {2, 1, 2, 1, 0, 1, 2};
        int[] got = new int[7];
        got[0] = x.fewest();
        x.blow(4);
        got[1] = x.fewest();
        x.undo();
        got[2] = x.fewest();
        x.image();
        x.blow(0);
        got[3] = x.fewest();
        x.blow(4);
        got[4] = x.fewest();
        x.light(1);
        got[5] = x.fewest();
        x.back(0);
        got[6] = x.fewest();
        for (int i = 0; i < 7; i++) {
            Check.due("fewest() " + i, got[i], want[i]);
        }
        x.blow(0);
        x.all();
        Check.due("fewest() behind all()", x.fewest(), 2);
        // Dazed or not is another moment, though the same candles burn.
        x = Check.told(TRICK);
        Check.due("fewest() of a trick one", x.fewest(), 2);
        x.blow(0);
        Check.due("fewest(), dazed", x.fewest(), 1);
        x.blow(8);
        Check.due("fewest(), not dazed any more", x.fewest(), 2);
    }

    @Says("NONE: 1 (no CAKE).")
    static void promise21_noCake() {
        Refusals.refused(Refusals::none, "fewest()", ThreeBreaths::fewest, -1, 1);
    }

    // ---- 22

    @Says("The i-th BREATH of its ROW.")
    static void promise22_row() {
        int[] want = {0, 4};
        for (int i = 0; i < 2; i++) {
            int at = i;
            Refusals.asks(Promise21To31Test::cake, "row(" + i + ")", x -> x.row(at), want[i]);
        }
        Refusals.asks(behind(CAKE, 0), "row(0) then", x -> x.row(0), 4);
        // Asked backwards, and behind other questions.
        ThreeBreaths x = cake();
        Check.due("row(1)", x.row(1), 4);
        x.from(1);
        x.more(0);
        x.less(0, 0);
        x.walk(0, 1);
        x.team();
        x.few(2);
        x.soonest(0);
        Check.due("row(0)", x.row(0), 0);
        Check.due("row(1)", x.row(1), 4);
        x.blow(8);
        Check.due("row(0) behind an act", x.row(0), 0);
        x.blow(4);
        Check.due("row(0) behind another", x.row(0), 0);
        Check.due("row(1) behind another", x.row(1), -1);
    }

    @Says("The i-th BREATH of its ROW.")
    static void promise22_rowsOfOneMomentAndTheNext() {
        ThreeBreaths x = Check.told("cake near 0 wax 9;candle a at 9,5 plain;candle b at 5,9 plain;candle c at 1,5 plain;place o at 5,5;"
            + "person p reach 9 spread 0");
        int[][] rows = {{0, 4, 8}, {4, 8}, {0, 8}, {0, 4, 8}, {0, 4}};
        for (int act = 0; act < rows.length; act++) {
            for (int i = 0; i < rows[act].length; i++) {
                Check.due("row(" + i + ") behind act " + act, x.row(i), rows[act][i]);
            }
            Check.due("row() at its end", x.row(rows[act].length), -1);
            x.all();
            x.blow(act == 2 ? 1 : 4 * (act == 3 ? 2 : act));
        }
    }

    // Each of ten in a fan of its own, three of them trick ones; a spot in another one.
    private static String thirteen() {
        int[] ways = {1, 0, 2, 1, 1, 1, 1, 2, 0, 1, -1, 2, -1, 1, -2, 1, -1, 0, -2, -1, -1, -1};
        StringBuilder text = new StringBuilder("cake near 0 wax 1;place o at 10,10;place m at 0,0;place n at 20,10;person p reach 3 spread 0");
        for (int i = 0; i < 11; i++) {
            text.append(i < 10 ? ";candle c" : ";spot s").append((char) ('a' + i)).append(" at ").append(10 + ways[2 * i]).append(',')
                .append(10 + ways[2 * i + 1]).append(i < 3 ? " trick" : i < 10 ? " plain" : "");
        }
        return text.toString();
    }

    @Says("till none burns")
    static void promise22_theLongestOfRows() {
        ThreeBreaths x = Check.told(thirteen());
        int[] row = {0, 0, 1, 1, 2, 2, 3, 4, 5, 6, 7, 8, 9};
        Check.due("fewest()", x.fewest(), 13);
        for (int i = 0; i < 13; i++) {
            Check.due("row(" + i + ")", x.row(i), row[i]);
        }
        Check.due("row(13)", x.row(13), -1);
        Check.due("walk(0, 0)", x.walk(0, 0), 0);
        Check.due("walk(0, 1)", x.walk(0, 1), 20);
        Check.due("walk(0, 2)", x.walk(0, 2), 10);
        Check.due("more(0)", x.more(0), 14);
        Check.due("from(0)", x.from(0), 13);
        Check.due("by(0)", x.by(0), 13);
        Check.due("soonest(9)", x.soonest(9), 1);
        Check.due("less(0, 0)", x.less(0, 0), 11);
        Check.due("few(9)", x.few(9), 2);
    }

    @Says("The ROW of it: of like ones the first by numbers, from the first on.")
    static void promise22_theFirstByNumbers() {
        // a before b only: b, out of the first fan, lights again as long as a burns; then each of a, c, d in whatever order.
        ThreeBreaths x = Check.told("cake near 3 wax 9;candle a at 10,12 plain;candle b at 12,10 again;candle c at 10,8 plain;"
            + "candle d at 7,10 plain;place o at 10,10;person p reach 3 spread 0");
        int[] want = {4, 8, 12, 0};
        for (int i = 0; i < 4; i++) {
            Check.due("row(" + i + ")", x.row(i), want[i]);
        }
        // A trick one is blown twice running.
        x = Check.told("cake near 0 wax 9;candle a at 1,0 trick;candle b at 0,1 trick;candle c at 0,5 trick;place o at 0,0;"
            + "person p reach 3 spread 0;person q reach 6 spread 0");
        int[] tricks = {0, 0, 20, 20};
        for (int i = 0; i < 4; i++) {
            Check.due("row(" + i + ") of trick ones", x.row(i), tricks[i]);
        }
    }

    @Says("NONE: 1 (no CAKE, i)")
    static void promise22_noSuchInTheRow() {
        Refusals.bounds(Refusals::none, 0, -1, "row", ThreeBreaths::row, -1, 1);
        Refusals.bounds(Promise21To31Test::cake, 0, 1, "row", ThreeBreaths::row, -1, 1);
        Refusals.bounds(behind(CAKE, 0), 0, 0, "row", ThreeBreaths::row, -1, 1);
        Refusals.bounds(Promise21To31Test::blownOut, 0, -1, "row", ThreeBreaths::row, -1, 1);
    }

    @Says("6 (it can't be)")
    static void promise22_itCantBe() {
        for (int i : new int[] {0, 1, 2, 9, 100, Integer.MAX_VALUE}) {
            Refusals.refused(Promise21To31Test::cant, "row(" + i + ")", x -> x.row(i), -1, 6);
        }
        // Below 0 it is no number of a row, whether there is one or not.
        for (int i : new int[] {-1, -2, Integer.MIN_VALUE}) {
            Refusals.refused(Promise21To31Test::cant, "row(" + i + ")", x -> x.row(i), -1, 1);
        }
    }

    // ---- 23, 24

    @Says("FEWEST from a place.")
    static void promise23_from() {
        Refusals.asks(Promise21To31Test::cake, "from(0)", x -> x.from(0), 2);
        Refusals.asks(Promise21To31Test::cake, "from(1)", x -> x.from(1), 3);
        Refusals.asks(behind(CAKE, 0), "from(1), c", x -> x.from(1), 1);
        Refusals.asks(behind(CAKE, 4), "from(0), a and b", x -> x.from(0), 1);
        Refusals.asks(behind(CAKE, 4), "from(1), a and b", x -> x.from(1), 2);
        Refusals.asks(Promise21To31Test::blownOut, "from(1), none burns", x -> x.from(1), 0);
        Refusals.asks(Promise21To31Test::cant, "from(0), it can't be", x -> x.from(0), -2);
        // Of a place all people may blow: p reaches a, only q b.
        Refusals.asks(() -> Check.told("cake near 0 wax 2;candle a at 4,0 plain;candle b at 4,1 plain;place m at 20,20;place o at 0,0;"
            + "person p reach 4 spread 0;person q reach 5 spread 10"), "from(1), two people", x -> x.from(1), 1);
        Refusals.asks(() -> Check.told("cake near 0 wax 2;candle a at 1,0 plain;candle b at 0,4 plain;place m at 20,20;place o at 0,0;"
            + "person p reach 1 spread 0;person q reach 9 spread 0"), "from(1), of all people", x -> x.from(1), 2);
        Refusals.asks(() -> Check.told(CANT.replace("20,20", "0,4") + ";person q reach 9 spread 0"), "from(0), q helps", x -> x.from(0), 2);
    }

    @Says("NONE: 1.")
    static void promise23_noSuchPlace() {
        Refusals.bounds(Refusals::none, 0, -1, "from", ThreeBreaths::from, -1, 1);
        Refusals.bounds(Refusals::small, 0, 0, "from", ThreeBreaths::from, -1, 1);
        Refusals.bounds(Refusals::full, 0, 4, "from", ThreeBreaths::from, -1, 1);
    }

    @Says("FEWEST by a person.")
    static void promise24_by() {
        Refusals.asks(Promise21To31Test::cake, "by(0)", x -> x.by(0), 2);
        Refusals.asks(Promise21To31Test::cake, "by(1), it can't be", x -> x.by(1), -2);
        Refusals.asks(behind(CAKE, 4), "by(0), c out", x -> x.by(0), 1);
        Refusals.asks(Promise21To31Test::blownOut, "by(1), none burns", x -> x.by(1), 0);
        // Of a person all places may be used: a from o alone, b from m alone.
        String apart = "cake near 0 wax 2;candle a at 1,0 plain;candle b at 19,0 plain;place o at 0,0;place m at 20,0;"
            + "person q reach 1 spread 0;person p reach 19 spread 0";
        Refusals.asks(() -> Check.told(apart), "by(0), from two places", x -> x.by(0), 2);
        Refusals.asks(() -> Check.told(apart), "by(1), at once", x -> x.by(1), 1);
    }

    @Says("NONE: 1.")
    static void promise24_noSuchPerson() {
        Refusals.bounds(Refusals::none, 0, -1, "by", ThreeBreaths::by, -1, 1);
        Refusals.bounds(Refusals::small, 0, 0, "by", ThreeBreaths::by, -1, 1);
        Refusals.bounds(Refusals::full, 0, 3, "by", ThreeBreaths::by, -1, 1);
    }

    // ---- 25

    @Says("Whether FEWEST of all is no more than wax: 1, 0.")
    static void promise25_inTime() {
        for (int wax = 1; wax <= 9; wax++) {
            String text = CAKE.replace("wax 2", "wax " + wax);
            Refusals.asks(() -> Check.told(text), "inTime(), 2 of " + wax, ThreeBreaths::inTime, wax >= 2 ? 1 : 0);
            Refusals.asks(behind(text, 0), "inTime(), 1 of " + wax, ThreeBreaths::inTime, 1);
        }
        Refusals.asks(() -> Check.told(TRICK.replace("wax 9", "wax 1")), "inTime(), a trick one", ThreeBreaths::inTime, 0);
        Refusals.asks(behind(TRICK.replace("wax 9", "wax 1"), 0), "inTime(), dazed", ThreeBreaths::inTime, 1);
        Refusals.asks(Promise21To31Test::blownOut, "inTime(), none burns", ThreeBreaths::inTime, 1);
        Refusals.asks(Promise21To31Test::cant, "inTime(), it can't be", ThreeBreaths::inTime, 0);
    }

    @Says("NONE: 1 (no CAKE).")
    static void promise25_noCake() {
        Refusals.refused(Refusals::none, "inTime()", ThreeBreaths::inTime, -1, 1);
    }

    // ---- 26

    @Says("WALK.")
    static void promise26_walk() {
        Refusals.asks(Promise21To31Test::cake, "walk(0, 0), all from there", x -> x.walk(0, 0), 0);
        Refusals.asks(Promise21To31Test::cake, "walk(0, 1)", x -> x.walk(0, 1), 4);
        Refusals.asks(behind(CAKE, 0), "walk(0, 1), only c", x -> x.walk(0, 1), 0);
        Refusals.asks(Promise21To31Test::blownOut, "walk(0, 1), none burns", x -> x.walk(0, 1), 0);
        Refusals.asks(Promise21To31Test::blownOut, "walk(1, 0), none burns", x -> x.walk(1, 0), 0);
        Refusals.asks(Promise21To31Test::cake, "walk(1, 0), it can't be", x -> x.walk(1, 0), -2);
        Refusals.asks(Promise21To31Test::cake, "walk(1, 1), it can't be", x -> x.walk(1, 1), -2);
        // Both far places, from the third the nearer one first.
        String far = "cake near 0 wax 2;candle a at 0,5 plain;candle b at 20,5 plain;place o at 0,0;place m at 20,0;place z at 14,3;"
            + "person p reach 5 spread 0";
        int[] want = {20, 20, 29};
        for (int place = 0; place < 3; place++) {
            int from = place;
            Refusals.asks(() -> Check.told(far), "walk(0, " + place + ")", x -> x.walk(0, from), want[place]);
        }
    }

    @Says("of rows of FEWEST of its own BREATHS the least way in all")
    static void promise26_thereAndBackAgain() {
        // a, seen from o alone, lights c, seen from m alone: o comes first, also for one who is at m.
        ThreeBreaths x = Check.told("cake near 2 wax 9;candle a at 3,0 plain;candle c at 3,2 again;place o at 0,0;place m at 6,2;"
            + "person p reach 3 spread 0");
        Check.due("by(0)", x.by(0), 2);
        Check.due("walk(0, 0): on to m", x.walk(0, 0), 8);
        Check.due("walk(0, 1): to o, and back", x.walk(0, 1), 16);
        // The least of many ways among rows of the fewest: the near one of two like places.
        String two = "cake near 0 wax 9;candle a at 9,9 plain;place o at 0,9;place n at 9,0;place m at 9,7;place k at 1,1;person p reach 9 spread 0";
        Check.due("walk(0, 0), there already", Check.told(two).walk(0, 0), 0);
        Check.due("walk(0, 3), to the nearer one", Check.told(two).walk(0, 3), 9);
    }

    @Says("of rows of FEWEST of its own BREATHS the least way in all")
    static void promise26_otherMomentsOfLikeDepth() {
        // Way 0 has a, way 1 both: what lies as far as the end, but isn't it, is no end.
        ThreeBreaths x = Check.told("cake near 0 wax 9;candle a at 4,1 plain;candle b at 4,3 plain;place o at 0,0;place m at 20,20;"
            + "person p reach 9 spread 3");
        Check.due("fan(0)", x.fan(0), 1);
        Check.due("fan(1)", x.fan(1), 3);
        Check.due("by(0)", x.by(0), 1);
        Check.due("walk(0, 0)", x.walk(0, 0), 0);
        Check.due("walk(0, 1)", x.walk(0, 1), 40);
    }

    @Says("NONE: 1.")
    static void promise26_noSuchPersonOrPlace() {
        Refusals.bounds(Refusals::none, 0, -1, "walk(*, 0)", (x, i) -> x.walk(i, 0), -1, 1);
        Refusals.bounds(Refusals::none, 0, -1, "walk(0, *)", (x, i) -> x.walk(0, i), -1, 1);
        Refusals.bounds(Refusals::small, 0, 0, "walk(*, 0)", (x, i) -> x.walk(i, 0), -1, 1);
        Refusals.bounds(Refusals::small, 0, 0, "walk(0, *)", (x, i) -> x.walk(0, i), -1, 1);
        Refusals.bounds(Refusals::full, 0, 3, "walk(*, 4)", (x, i) -> x.walk(i, 4), -1, 1);
        Refusals.bounds(Refusals::full, 0, 4, "walk(3, *)", (x, i) -> x.walk(3, i), -1, 1);
        Refusals.refused(Refusals::full, "walk(4, 5)", x -> x.walk(4, 5), -1, 1);
        // Where it can't be such numbers are refused all the same.
        Refusals.refused(Promise21To31Test::cant, "walk(0, 1)", x -> x.walk(0, 1), -1, 1);
        Refusals.refused(Promise21To31Test::cant, "walk(1, 0)", x -> x.walk(1, 0), -1, 1);
    }

    // ---- 27, 28

    private static void teams(Supplier<ThreeBreaths> made, String name, int each, int team) {
        Refusals.asks(made, "each(), " + name, ThreeBreaths::each, each);
        Refusals.asks(made, "team(), " + name, ThreeBreaths::team, team);
    }

    @Says("EACH: the fewest people who can do it, each with one BREATH at most, in whatever order; -2.")
    static void promise27_each() {
        String three = "cake near 0 wax 9;candle a at 1,0 plain;candle b at 0,1 plain;place o at 0,0;"
            + "person p reach 3 spread 0;person q reach 3 spread 0;person r reach 3 spread 0";
        teams(() -> Check.told(three), "two of three", 2, 3);
        teams(behind(three, 0), "one of three", 1, 1);
        teams(Promise21To31Test::blownOut, "none burns", 0, 0);
        teams(Promise21To31Test::cant, "it can't be", -2, -2);
        // A trick one needs two people running, and a third one for the plain one.
        teams(() -> Check.told("cake near 0 wax 9;candle a at 9,0 trick;candle b at 0,2 plain;place o at 0,0;"
            + "person p reach 9 spread 0;person q reach 3 spread 0;person r reach 9 spread 0"), "a trick one", 3, 7);
        // One breath each is too few, though it could be with more.
        teams(() -> Check.told(TRICK), "one breath each", -2, -2);
        Check.due("fewest() all the same", Check.told(TRICK).fewest(), 2);
        teams(behind(TRICK, 0), "dazed", 1, 1);
    }

    @Says("each with one BREATH at most, in whatever order")
    static void promise27_inWhateverOrder() {
        // Who puts out b, which lights a, must come ahead of who puts out a: whoever is told first.
        String[] people = {"person p reach 1 spread 0", "person q reach 5 spread 0"};
        for (int first = 0; first < 2; first++) {
            String text = "cake near 5 wax 9;candle a at 1,0 again;candle b at 0,5 plain;place o at 0,0;" + people[first] + ";"
                + people[1 - first];
            // q's breath along a hits it, too; but it hits b only up.
            teams(() -> Check.told(text), "in whatever order", 2, 3);
        }
        // d lights the three others, so whoever puts it out comes first: the last one told alone can.
        StringBuilder star = new StringBuilder("cake near 3 wax 9;candle a at 5,8 again;candle b at 8,5 again;candle c at 2,5 again;"
            + "candle d at 5,5 tall;place o at 5,6;place m at 5,7;place k at 7,5;place l at 3,5");
        for (int person = 1; person <= 4; person++) {
            star.append(";person p").append((char) ('a' + person)).append(" reach ").append(person < 4 ? 1 : 2).append(" spread 0");
        }
        teams(() -> Check.told(star.toString()), "four, the last one first", 4, 15);
    }

    @Says("NONE: 1 (no CAKE).")
    static void promise27_noCake() {
        Refusals.refused(Refusals::none, "each()", ThreeBreaths::each, -1, 1);
    }

    @Says("TEAM: of like ones the least bits of people.")
    static void promise28_team() {
        String far = "cake near 0 wax 9;candle a at 9,0 plain;candle b at 0,9 plain;place o at 0,0";
        String[] lines = {";person * reach 3 spread 0", ";person * reach 9 spread 0"};
        // Of each choice of those among four who reach it: the first two; with fewer than two it can't be.
        for (int reach = 0; reach < 16; reach++) {
            StringBuilder text = new StringBuilder(far);
            for (int person = 0; person < 4; person++) {
                text.append(lines[reach >> person & 1].replace("*", "p" + (char) ('a' + person)));
            }
            int first = Integer.lowestOneBit(reach);
            int team = Integer.bitCount(reach) < 2 ? -2 : first | Integer.lowestOneBit(reach & ~first);
            teams(() -> Check.told(text.toString()), "those of " + reach, team < 0 ? -2 : 2, team);
        }
    }

    @Says("the fewest people who can do it")
    static void promise28_fewerGoAheadOfLesserBits() {
        String text = "cake near 0 wax 9;candle a at 9,0 plain;candle b at 9,9 plain;place o at 0,0;"
            + "person p reach 20 spread 0;person q reach 20 spread 0;person s reach 20 spread 0;person r reach 20 spread 10";
        teams(() -> Check.told(text), "the last one alone", 1, 8);
        // Three of like number: the first and the last one, not the two of lesser bits that can't.
        String pairs = "cake near 0 wax 9;candle a at 9,0 plain;candle b at 0,5 plain;place o at 0,0;"
            + "person p reach 5 spread 0;person q reach 5 spread 0;person r reach 9 spread 0";
        teams(() -> Check.told(pairs), "the first and the last", 2, 5);
    }

    @Says("TEAM; -2. NONE: 1 (no CAKE).")
    static void promise28_noCake() {
        Refusals.refused(Refusals::none, "team()", ThreeBreaths::team, -1, 1);
        // What was found for one moment isn't told of the next.
        ThreeBreaths x = Check.told(TRICK);
        Check.due("team()", x.team(), -2);
        x.blow(0);
        Check.due("team(), dazed", x.team(), 1);
        x.blow(0);
        Check.due("team(), out", x.team(), 0);
        x.undo();
        Check.due("team(), undone", x.team(), 1);
    }

    // ---- 29

    @Says("How many would burn at the end by greedy BREATHS, till none of them gains any more, or wax many are blown.")
    static void promise29_greedyEnd() {
        Refusals.asks(Promise21To31Test::cake, "greedyEnd()", ThreeBreaths::greedyEnd, 0);
        Refusals.asks(() -> Check.told(CAKE.replace("wax 2", "wax 1")), "greedyEnd(), wax 1", ThreeBreaths::greedyEnd, 1);
        Refusals.asks(behind(CAKE.replace("wax 2", "wax 1"), 4), "greedyEnd(), from now on", ThreeBreaths::greedyEnd, 0);
        Refusals.asks(Promise21To31Test::blownOut, "greedyEnd(), none burns", ThreeBreaths::greedyEnd, 0);
        Refusals.asks(Promise21To31Test::cant, "greedyEnd(), one left", ThreeBreaths::greedyEnd, 1);
        // A trick one gains nothing at first: greed stops, though two breaths would do.
        Refusals.asks(() -> Check.told(TRICK), "greedyEnd(), a trick one", ThreeBreaths::greedyEnd, 1);
        Refusals.asks(behind(TRICK, 0), "greedyEnd(), dazed", ThreeBreaths::greedyEnd, 0);
        // With a plain one it is dazed on the way, and goes out by the next.
        Refusals.asks(() -> Check.told(TRICK.replace("trick;", "trick;candle b at 8,0 plain;candle c at 7,0 plain;")),
            "greedyEnd(), dazed on the way", ThreeBreaths::greedyEnd, 0);
        // Dazed at the end they burn, all three.
        String four = "candle b at 8,0 plain;candle c at 7,0 trick;candle d at 6,0 trick;place o";
        for (int wax = 1; wax <= 2; wax++) {
            String text = TRICK.replace("wax 9", "wax " + wax).replace("place o", four);
            Refusals.asks(() -> Check.told(text), "greedyEnd(), three dazed, wax " + wax, ThreeBreaths::greedyEnd, wax == 1 ? 3 : 0);
        }
    }

    @Says("or wax many are blown")
    static void promise29_waxManyAreBlown() {
        // Nine, each in a fan of its own: each breath of greed gains one.
        StringBuilder text = new StringBuilder("place o at 10,10;person p reach 30 spread 0");
        int[] ways = {1, 0, 2, 1, 1, 1, 1, 2, 0, 1, -1, 2, -1, 1, -2, 1, -1, 0, -2, -1};
        for (int i = 0; i < 10; i++) {
            text.append(";candle c").append((char) ('a' + i)).append(" at ").append(10 + ways[2 * i]).append(',').append(10 + ways[2 * i + 1])
                .append(" plain");
        }
        for (int wax = 1; wax <= 9; wax++) {
            String whole = text + ";cake near 0 wax " + wax;
            Refusals.asks(() -> Check.told(whole), "greedyEnd(), wax " + wax, ThreeBreaths::greedyEnd, 10 - wax);
        }
    }

    @Says("till none of them gains any more")
    static void promise29_tillNoneGains() {
        // Every breath lets one more burn: none is blown.
        Supplier<ThreeBreaths> below = () -> {
            ThreeBreaths x = Check.told("cake near 1 wax 9;candle a at 1,0 trick;candle b at 2,0 again;place o at 0,0;person p reach 3 spread 0");
            x.blow(0);
            x.blow(0);
            x.light(0);
            return x;
        };
        Refusals.asks(below, "gain(0)", x -> x.gain(0), -1);
        Refusals.asks(below, "greedyEnd(), all gain below 0", ThreeBreaths::greedyEnd, 1);
        // The greatest gain first is not the best: it ends with one left that lights again and again.
        Refusals.asks(() -> Check.told("cake near 1 wax 9;candle a at 1,0 trick;candle b at 2,0 again;candle c at 9,9 plain;place o at 0,0;"
            + "place m at 9,8;person p reach 3 spread 0"), "greedyEnd(), c out, a held", ThreeBreaths::greedyEnd, 2);
    }

    @Says("NONE: 1 (no CAKE).")
    static void promise29_noCake() {
        Refusals.refused(Refusals::none, "greedyEnd()", ThreeBreaths::greedyEnd, -1, 1);
    }

    // ---- 30

    private static final String CHAIN = "cake near 3 wax 9;candle a at 1,0 trick;candle b at 0,1 plain;candle c at 0,2 again;"
        + "candle d at 2,2 plain;candle e at 20,20 plain;place o at 0,0;person p reach 3 spread 0";

    @Says("SOONEST; -2 if it can't be out.")
    static void promise30_soonest() {
        int[] want = {2, 1, 4, 1, -2};
        int[] dazed = {1, 1, 3, 1, -2};
        int[] out = {0, 1, 2, 1, -2};
        for (int c = 0; c < 5; c++) {
            int candle = c;
            Refusals.asks(() -> Check.told(CHAIN), "soonest(" + c + ")", x -> x.soonest(candle), want[c]);
            Refusals.asks(behind(CHAIN, 0), "soonest(" + c + "), a dazed", x -> x.soonest(candle), dazed[c]);
            Refusals.asks(() -> {
                ThreeBreaths x = Check.told(CHAIN);
                x.blow(0);
                x.blow(0);
                return x;
            }, "soonest(" + c + "), a out", x -> x.soonest(candle), out[c]);
        }
        // Out it is out behind no breath at all, though it would light again behind the next.
        Supplier<ThreeBreaths> lit = () -> {
            ThreeBreaths x = Check.told("cake near 1 wax 9;candle a at 1,0 plain;candle b at 2,0 again;place o at 0,0;person p reach 3 spread 0");
            x.blow(0);
            x.light(0);
            return x;
        };
        Refusals.asks(lit, "soonest(1), out", x -> x.soonest(1), 0);
        // Two that light each other are never out.
        Refusals.asks(() -> Check.told("cake near 9 wax 9;candle a at 1,0 again;candle b at 0,1 again;place o at 0,0;person p reach 3 spread 0"),
            "soonest(1), lit by the other", x -> x.soonest(1), -2);
    }

    @Says("NONE: 1.")
    static void promise30_noSuchCandle() {
        Refusals.bounds(Refusals::none, 0, -1, "soonest", ThreeBreaths::soonest, -1, 1);
        Refusals.bounds(Refusals::small, 0, 0, "soonest", ThreeBreaths::soonest, -1, 1);
        Refusals.bounds(Refusals::full, 0, 9, "soonest", ThreeBreaths::soonest, -1, 1);
    }

    // ---- 31

    @Says("FEW.")
    static void promise31_few() {
        int[] want = {3, 1, 0, 0, 0, 0, 0, 0, 0, 0};
        for (int n = 0; n < 10; n++) {
            int breaths = n;
            Refusals.asks(Promise21To31Test::cake, "few(" + n + ")", x -> x.few(breaths), want[n]);
            Refusals.asks(Promise21To31Test::blownOut, "few(" + n + "), none burns", x -> x.few(breaths), 0);
            Refusals.asks(Promise21To31Test::cant, "few(" + n + "), one spared", x -> x.few(breaths), n == 0 ? 2 : 1);
            Refusals.asks(() -> Check.told(TRICK), "few(" + n + "), a trick one", x -> x.few(breaths), n < 2 ? 1 : 0);
            Refusals.asks(behind(TRICK, 0), "few(" + n + "), dazed", x -> x.few(breaths), n < 1 ? 1 : 0);
        }
    }

    @Says("FEW behind n BREATHS (0 .. 9) from NOW on, one behind the other, just n: the fewest that can burn then.")
    static void promise31_justN() {
        // Only a burns, which holds out once: with one breath b lights again, with two both are out.
        Supplier<ThreeBreaths> lit = () -> {
            ThreeBreaths x = Check.told("cake near 1 wax 9;candle a at 1,0 trick;candle b at 2,0 again;place o at 0,0;person p reach 3 spread 0");
            x.blow(0);
            x.blow(0);
            x.light(0);
            return x;
        };
        int[] want = {1, 2, 0, 0};
        for (int n = 0; n < want.length; n++) {
            int breaths = n;
            Refusals.asks(lit, "few(" + n + ")", x -> x.few(breaths), want[n]);
        }
        // Nine breaths just do it: three trick ones, and three others.
        StringBuilder nine = new StringBuilder("cake near 0 wax 1;place o at 10,10;person p reach 30 spread 0");
        int[] ways = {1, 0, 2, 1, 1, 1, 1, 2, 0, 1, -1, 2};
        for (int i = 0; i < 6; i++) {
            nine.append(";candle c").append((char) ('a' + i)).append(" at ").append(10 + ways[2 * i]).append(',').append(10 + ways[2 * i + 1])
                .append(i < 3 ? " trick" : " plain");
        }
        int[] then = {6, 5, 4, 3, 3, 2, 2, 1, 1, 0};
        for (int n = 0; n < 10; n++) {
            int breaths = n;
            Refusals.asks(() -> Check.told(nine.toString()), "few(" + n + ") of six", x -> x.few(breaths), then[n]);
        }
    }

    @Says("from NOW on")
    static void promise31_behindOtherQuestions() {
        int[] want = {3, 1, 0, 0, 0, 0, 0, 0, 0, 0};
        ThreeBreaths x = cake();
        for (int n = 0; n < 10; n++) {
            x.soonest(2);
            Check.due("few(" + n + ") behind soonest()", x.few(n), want[n]);
            x.more(0);
            x.team();
            x.less(1, 1);
            Check.due("few(" + n + ") behind less()", x.few(n), want[n]);
            x.from(1);
            x.blow(8);
            Check.due("few(" + n + ") behind from() and an act", x.few(n), want[n]);
        }
    }

    @Says("NONE: 1 (no CAKE); 2.")
    static void promise31_refused() {
        Refusals.bounds(Refusals::none, 0, -1, "few", ThreeBreaths::few, -1, 1);
        Refusals.refused(Refusals::none, "few(0)", x -> x.few(0), -1, 1);
        Refusals.bounds(Refusals::small, 0, 9, "few", ThreeBreaths::few, -1, 2);
        Refusals.bounds(Refusals::full, 0, 9, "few", ThreeBreaths::few, -1, 2);
    }
}
