/** Promises 21 to 31: the fewest breaths, their row, from, by, in time, walking, each and team, greed, soonest, few. */
public final class FewestTest {
    // From o: way 0 hits a and b, way 4 hits c. From m: way 8 hits c, way 11 a, way 12 b.
    private static final String CAKE = "cake near 0 wax 2;candle a at 1,0 plain;candle b at 2,0 plain;candle c at 0,2 plain;"
        + "place o at 0,0;place m at 2,2;person p reach 3 spread 0;person q reach 1 spread 0";

    public static void main(String[] args) {
        fewestAndRow();
        rowIsFirstByNumbers();
        cantBe();
        tricks();
        fromAndBy();
        inTime();
        walk();
        eachAndTeam();
        greedyEnd();
        soonest();
        few();
        withoutCake();
        Check.end("FewestTest");
    }

    private static void fewestAndRow() {
        ThreeBreaths x = Check.told(CAKE);
        Check.due(x, "fewest()", x.fewest(), 2, 0);
        Check.due(x, "row(0)", x.row(0), 0, 0);
        Check.due(x, "row(1)", x.row(1), 4, 0);
        Check.due(x, "row(2)", x.row(2), -1, 1);
        Check.due(x, "row(-1)", x.row(-1), -1, 1);
        x.blow(4);
        Check.due(x, "fewest() then", x.fewest(), 1, 0);
        Check.due(x, "row(0) then", x.row(0), 0, 0);
        Check.due(x, "row(1) then", x.row(1), -1, 1);
        x.undo();
        Check.due(x, "fewest() undone", x.fewest(), 2, 0);
        Check.due(x, "row(1) undone", x.row(1), 4, 0);
        x.blow(0);
        x.blow(4);
        Check.due(x, "fewest() at the end", x.fewest(), 0, 0);
        Check.due(x, "row(0) at the end", x.row(0), -1, 1);
        x.all();
        Check.due(x, "fewest() of all again", x.fewest(), 2, 0);
    }

    private static void rowIsFirstByNumbers() {
        // c first is possible, too; the row begins with the least number that still can end in time.
        ThreeBreaths x = Check.told("cake near 0 wax 2;candle a at 5,9 plain;candle b at 9,5 plain;candle c at 5,1 plain;"
            + "place o at 5,5;person p reach 5 spread 0;person q reach 5 spread 0");
        Check.due("fewest()", x.fewest(), 3);
        Check.due("row(0)", x.row(0), 0);
        Check.due("row(1)", x.row(1), 4);
        Check.due("row(2)", x.row(2), 12);
        // A trick one must be blown twice in a row: it comes first, though its number is greater than that of nothing.
        x = Check.told("cake near 1 wax 2;candle a at 5,9 trick;candle b at 5,8 again;place o at 5,5;person p reach 5 spread 0");
        Check.due("fewest(), trick", x.fewest(), 2);
        Check.due("row(0), trick", x.row(0), 4);
        Check.due("row(1), trick", x.row(1), 4);
    }

    private static void cantBe() {
        ThreeBreaths x = Check.told("cake near 0 wax 2;candle a at 1,0 plain;candle b at 20,20 plain;place o at 0,0;person p reach 3 spread 0");
        Check.due(x, "fewest()", x.fewest(), -2, 0);
        Check.due(x, "row(0)", x.row(0), -1, 6);
        Check.due(x, "row(9), which a row could have", x.row(9), -1, 6);
        Check.due(x, "row(-1), which no row has", x.row(-1), -1, 1);
        Check.due(x, "row(least int)", x.row(Integer.MIN_VALUE), -1, 1);
        Check.due(x, "from(0)", x.from(0), -2, 0);
        Check.due(x, "by(0)", x.by(0), -2, 0);
        Check.due(x, "inTime()", x.inTime(), 0, 0);
        Check.due(x, "walk(0, 0)", x.walk(0, 0), -2, 0);
        Check.due(x, "each()", x.each(), -2, 0);
        Check.due(x, "team()", x.team(), -2, 0);
        Check.due(x, "soonest(1)", x.soonest(1), -2, 0);
        Check.due(x, "few(9)", x.few(9), 1, 0);
        // Two that light each other, never both in one fan.
        x = Check.told("cake near 9 wax 9;candle a at 1,0 again;candle b at 0,1 again;place o at 0,0;person p reach 3 spread 0");
        Check.due(x, "fewest(), each lights the other", x.fewest(), -2, 0);
        Check.due(x, "soonest(0)", x.soonest(0), -2, 0);
    }

    private static void tricks() {
        ThreeBreaths x = Check.told("cake near 0 wax 9;candle a at 1,0 trick;candle b at 0,1 trick;candle c at 0,5 trick;place o at 0,0;"
            + "person p reach 3 spread 0;person q reach 6 spread 0");
        Check.due("fewest()", x.fewest(), 4);
        int[] row = {0, 0, 20, 20};
        for (int i = 0; i < 4; i++) {
            Check.due("row(" + i + ")", x.row(i), row[i]);
        }
        x.blow(20);
        Check.due("fewest(), two dazed", x.fewest(), 3);
        Check.due("row(0), two dazed", x.row(0), 20);
        x.blow(8);
        Check.due("fewest(), none dazed any more", x.fewest(), 4);
    }

    private static void fromAndBy() {
        ThreeBreaths x = Check.told(CAKE);
        Check.due(x, "from(0)", x.from(0), 2, 0);
        Check.due(x, "from(1)", x.from(1), 3, 0);
        Check.due(x, "from(2)", x.from(2), -1, 1);
        Check.due(x, "from(-1)", x.from(-1), -1, 1);
        Check.due(x, "by(0)", x.by(0), 2, 0);
        Check.due(x, "by(1)", x.by(1), -2, 0);
        Check.due(x, "by(2)", x.by(2), -1, 1);
        Check.due(x, "by(-1)", x.by(-1), -1, 1);
        x.blow(0);
        Check.due(x, "from(1) then", x.from(1), 1, 0);
        x.blow(4);
        Check.due(x, "from(1) when none burns", x.from(1), 0, 0);
        Check.due(x, "by(1) when none burns", x.by(1), 0, 0);
    }

    private static void inTime() {
        ThreeBreaths x = Check.told(CAKE);
        Check.due(x, "inTime(), just", x.inTime(), 1, 0);
        x = Check.told(CAKE.replace("wax 2", "wax 1"));
        Check.due(x, "inTime(), not", x.inTime(), 0, 0);
        x.blow(0);
        Check.due(x, "inTime(), from now on", x.inTime(), 1, 0);
    }

    private static void walk() {
        ThreeBreaths x = Check.told(CAKE);
        Check.due(x, "walk(0, 0)", x.walk(0, 0), 0, 0);
        Check.due(x, "walk(0, 1)", x.walk(0, 1), 4, 0);
        Check.due(x, "walk(1, 0)", x.walk(1, 0), -2, 0);
        Check.due(x, "walk(2, 0)", x.walk(2, 0), -1, 1);
        Check.due(x, "walk(0, 2)", x.walk(0, 2), -1, 1);
        Check.due(x, "walk(-1, 0)", x.walk(-1, 0), -1, 1);
        Check.due(x, "walk(0, -1)", x.walk(0, -1), -1, 1);
        // From m one can begin with c (way 8), then must go to o for a and b: 4 as well; behind blow(0) none is needed.
        x.blow(0);
        Check.due(x, "walk(0, 1) then", x.walk(0, 1), 0, 0);
        x.blow(4);
        Check.due(x, "walk(0, 1) at the end", x.walk(0, 1), 0, 0);
        // Two that need o and m: the way there and, from the third place, to the nearer one first.
        x = Check.told("cake near 0 wax 2;candle a at 0,5 plain;candle b at 20,5 plain;place o at 0,0;place m at 20,0;place z at 14,3;"
            + "person p reach 5 spread 0");
        Check.due("walk(0, 0)", x.walk(0, 0), 20);
        Check.due("walk(0, 1)", x.walk(0, 1), 20);
        Check.due("walk(0, 2)", x.walk(0, 2), 29);
        // Fewest breaths go ahead of a shorter way: two from o, or one from far m.
        x = Check.told("cake near 0 wax 2;candle a at 5,0 plain;candle b at 0,5 plain;place o at 0,0;place m at 10,10;"
            + "person p reach 13 spread 4");
        Check.due("two from o", x.from(0), 2);
        Check.due("one from m", x.from(1), 1);
        Check.due("walk(0, 0), one breath, far", x.walk(0, 0), 20);
    }

    private static void eachAndTeam() {
        ThreeBreaths x = Check.told("cake near 0 wax 9;candle a at 1,0 plain;candle b at 0,1 plain;place o at 0,0;"
            + "person p reach 3 spread 0;person q reach 3 spread 0;person r reach 3 spread 0");
        Check.due(x, "each()", x.each(), 2, 0);
        Check.due(x, "team()", x.team(), 3, 0);
        x.blow(0);
        Check.due(x, "each() of one", x.each(), 1, 0);
        Check.due(x, "team() of one", x.team(), 1, 0);
        x.blow(4);
        Check.due(x, "each() of none", x.each(), 0, 0);
        Check.due(x, "team() of none", x.team(), 0, 0);
        // Only q and s reach both far ones; p and r reach none.
        x = Check.told("cake near 0 wax 9;candle a at 9,0 plain;candle b at 0,9 plain;place o at 0,0;"
            + "person p reach 3 spread 0;person q reach 9 spread 0;person r reach 3 spread 0;person s reach 9 spread 0");
        Check.due(x, "each(), far", x.each(), 2, 0);
        Check.due(x, "team(), far", x.team(), 10, 0);
        // p and q together could, but r alone can, too: fewer people go ahead of lesser bits.
        x = Check.told("cake near 0 wax 9;candle a at 9,0 plain;candle b at 9,9 plain;place o at 0,0;"
            + "person p reach 20 spread 0;person q reach 20 spread 0;person r reach 20 spread 10");
        Check.due(x, "each(), one", x.each(), 1, 0);
        Check.due(x, "team(), one", x.team(), 4, 0);
        // In whatever order: the trick one needs two breaths in a row, of unlike people.
        x = Check.told("cake near 0 wax 9;candle a at 9,0 trick;candle b at 0,2 plain;place o at 0,0;"
            + "person p reach 9 spread 0;person q reach 3 spread 0;person r reach 9 spread 0");
        Check.due(x, "each(), trick", x.each(), 3, 0);
        Check.due(x, "team(), trick", x.team(), 7, 0);
        x = Check.told("cake near 0 wax 9;candle a at 9,0 trick;place o at 0,0;person p reach 9 spread 0;person q reach 3 spread 0");
        Check.due(x, "each(), one breath each is too few", x.each(), -2, 0);
        Check.due(x, "team(), one breath each is too few", x.team(), -2, 0);
        Check.due(x, "fewest() all the same", x.fewest(), 2, 0);
    }

    private static void greedyEnd() {
        ThreeBreaths x = Check.told(CAKE);
        Check.due(x, "greedyEnd()", x.greedyEnd(), 0, 0);
        Check.due("nothing is blown", x.burning(), 7);
        x = Check.told(CAKE.replace("wax 2", "wax 1"));
        Check.due(x, "greedyEnd(), wax 1", x.greedyEnd(), 1, 0);
        // A trick one alone gains nothing at first: greed stops.
        x = Check.told("cake near 0 wax 9;candle a at 1,0 trick;candle b at 0,1 plain;place o at 0,0;person p reach 3 spread 0");
        Check.due(x, "greedyEnd(), trick", x.greedyEnd(), 1, 0);
        x.blow(0);
        Check.due(x, "greedyEnd(), dazed", x.greedyEnd(), 0, 0);
    }

    private static void soonest() {
        ThreeBreaths x = Check.told("cake near 3 wax 9;candle a at 1,0 trick;candle b at 0,1 plain;candle c at 0,2 again;"
            + "candle d at 2,2 plain;place o at 0,0;person p reach 3 spread 0");
        Check.due(x, "soonest(0)", x.soonest(0), 2, 0);
        Check.due(x, "soonest(1)", x.soonest(1), 1, 0);
        // c lights again as long as a, b or d burn: two for a, one for d, then c (with b).
        Check.due(x, "soonest(2)", x.soonest(2), 4, 0);
        Check.due(x, "soonest(4)", x.soonest(4), -1, 1);
        Check.due(x, "soonest(-1)", x.soonest(-1), -1, 1);
        x.blow(0);
        Check.due(x, "soonest(0), dazed", x.soonest(0), 1, 0);
        x.blow(0);
        Check.due(x, "soonest(0), out", x.soonest(0), 0, 0);
    }

    private static void few() {
        ThreeBreaths x = Check.told(CAKE);
        int[] want = {3, 1, 0, 0, 0, 0, 0, 0, 0, 0};
        for (int n = 0; n < 10; n++) {
            Check.due(x, "few(" + n + ")", x.few(n), want[n], 0);
        }
        Check.due(x, "few(-1)", x.few(-1), -1, 2);
        Check.due(x, "few(10)", x.few(10), -1, 2);
        // Just n: a and b are lit by c with every breath more, and c can't be reached.
        x = Check.told("cake near 1 wax 9;candle a at 1,0 again;candle b at 2,0 again;candle c at 3,0 plain;place o at 0,0;person p reach 2 spread 0");
        Check.due("few(0)", x.few(0), 3);
        Check.due("few(1)", x.few(1), 2);
        x.blow(0);
        Check.due("burning()", x.burning(), 6);
        Check.due("few(0)", x.few(0), 2);
        Check.due("few(1)", x.few(1), 2);
        // Another such: what is out now lights again behind any breath.
        x = Check.told("cake near 1 wax 9;candle a at 1,0 again;candle c at 9,9 plain;candle d at 1,1 plain;place o at 0,0;place m at 3,0;"
            + "person p reach 2 spread 0");
        x.blow(0);
        Check.due("few(0), c, d and a", x.few(0), 3);
    }

    private static void withoutCake() {
        ThreeBreaths x = new ThreeBreaths();
        Check.due(x, "fewest()", x.fewest(), -1, 1);
        Check.due(x, "row(0)", x.row(0), -1, 1);
        Check.due(x, "row(-1)", x.row(-1), -1, 1);
        Check.due(x, "from(0)", x.from(0), -1, 1);
        Check.due(x, "by(0)", x.by(0), -1, 1);
        Check.due(x, "inTime()", x.inTime(), -1, 1);
        Check.due(x, "walk(0, 0)", x.walk(0, 0), -1, 1);
        Check.due(x, "each()", x.each(), -1, 1);
        Check.due(x, "team()", x.team(), -1, 1);
        Check.due(x, "greedyEnd()", x.greedyEnd(), -1, 1);
        Check.due(x, "soonest(0)", x.soonest(0), -1, 1);
        Check.due(x, "few(0)", x.few(0), -1, 1);
        Check.due(x, "few(99)", x.few(99), -1, 1);
    }
}
