/** Term II: ways, fans at their very edge, breaths one behind the other, the fewest, walking, each and team. */
public final class Term2Test {
    private static final int[][] HALF = {{1, 0}, {2, 1}, {1, 1}, {1, 2}, {0, 1}, {-1, 2}, {-1, 1}, {-2, 1}};

    public static void main(String[] args) {
        Sentences.run(Term2Test.class);
    }

    private static int wayX(int way) {
        return way < 8 ? HALF[way][0] : -HALF[way - 8][0];
    }

    private static int wayY(int way) {
        return way < 8 ? HALF[way][1] : -HALF[way - 8][1];
    }

    /** One candle that lies x, y from the one place, and one person. */
    private static ThreeBreaths lone(int x, int y, String kind, int reach, int spread) {
        return Check.told("cake near 0 wax 3;candle a at " + (10 + x) + "," + (10 + y) + " " + kind + ";place o at 10,10;person p reach "
            + reach + " spread " + spread);
    }

    // ---- ways and fans

    @Says("WAYS 0 .. 15 of a breath, x by y: 0 (1, 0), 1 (2, 1), 2 (1, 1), 3 (1, 2), 4 (0, 1), 5 (-1, 2), 6 (-1, 1), 7 (-2, 1), and so on round: "
        + "8 to 15 are these the other way.")
    static void term2_waysGoRound() {
        for (int way = 0; way < 16; way++) {
            for (int steps = 1; steps <= 5; steps++) {
                ThreeBreaths x = lone(steps * wayX(way), steps * wayY(way), "plain", 30, 0);
                for (int blown = 0; blown < 16; blown++) {
                    Check.due("on way " + way + ", " + steps + " steps: fan(" + blown + ")", x.fan(blown), blown == way ? 1 : 0);
                }
            }
        }
    }

    // For WAYS 0 .. 7: a candle on either side whose 10 times CROSS is just this spread times its DOT (of 5).
    private static final int[][] EDGES = {
        {5, 1, 5, -1, 2}, {0, 5, 4, -3, 20}, {3, 2, 2, 3, 2}, {5, 0, -3, 4, 20},
        {1, 5, -1, 5, 2}, {-5, 0, 3, 4, 20}, {-3, 2, -2, 3, 2}, {0, 5, -4, -3, 20}};

    @Says("if 10 times CROSS, without its sign, is no more than spread times DOT")
    static void term2_inAFanAtItsVeryEdge() {
        for (int way = 0; way < 16; way++) {
            int[] edge = EDGES[way % 8];
            int sign = way < 8 ? 1 : -1;
            for (int side = 0; side < 4; side += 2) {
                int x = sign * edge[side];
                int y = sign * edge[side + 1];
                String name = "way " + way + ", candle " + x + ", " + y + ", spread ";
                Check.due(name + edge[4], lone(x, y, "plain", 30, edge[4]).fan(way), 1);
                Check.due(name + "less by 1", lone(x, y, "plain", 30, edge[4] - 1).fan(way), 0);
                Check.due(name + "more by 1", lone(x, y, "plain", 30, edge[4] + 1).fan(way), 1);
            }
        }
        for (int spread = 0; spread <= 10; spread++) {
            Check.due("10, " + spread, lone(10, spread, "plain", 30, spread).fan(0), 1);
            Check.due("10, -" + spread, lone(10, -spread, "plain", 30, spread).fan(0), 1);
            if (spread > 0) {
                Check.due("10, " + spread + ", a spread less", lone(10, spread, "plain", 30, spread - 1).fan(0), 0);
                Check.due("10, -" + spread + ", a spread less", lone(10, -spread, "plain", 30, spread - 1).fan(0), 0);
            }
        }
        Check.due("1, 3, spread 30", lone(1, 3, "plain", 30, 30).fan(0), 1);
        Check.due("1, 3, spread 29", lone(1, 3, "plain", 30, 29).fan(0), 0);
        Check.due("1, 4, spread 30", lone(1, 4, "plain", 30, 30).fan(0), 0);
    }

    @Says("DOT above 0")
    static void term2_nothingBehindOrBeside() {
        for (int way = 0; way < 16; way++) {
            for (int spread = 0; spread <= 30; spread += 15) {
                Check.due("behind way " + way, lone(-wayX(way), -wayY(way), "plain", 30, spread).fan(way), 0);
                Check.due("beside way " + way, lone(-wayY(way), wayX(way), "plain", 30, spread).fan(way), 0);
                Check.due("beside way " + way, lone(wayY(way), -wayX(way), "plain", 30, spread).fan(way), 0);
            }
        }
    }

    private static int leastReach(int square) {
        int reach = 1;
        while (reach * reach < square) {
            reach++;
        }
        return reach;
    }

    @Says("and x times x and y times y together no more than reach times reach (of a tall one: four times that sum)")
    static void term2_inReachAtItsVeryEdge() {
        String[] kinds = {"plain", "again", "trick", "tall"};
        for (int way = 0; way < 16; way++) {
            for (int steps = 1; steps <= 5; steps++) {
                int x = steps * wayX(way);
                int y = steps * wayY(way);
                for (String kind : kinds) {
                    int reach = leastReach((x * x + y * y) * (kind.equals("tall") ? 4 : 1));
                    Check.due(kind + " " + x + ", " + y + ", reach " + reach, lone(x, y, kind, reach, 0).fan(way), 1);
                    if (reach > 1) {
                        Check.due(kind + " " + x + ", " + y + ", reach less by 1", lone(x, y, kind, reach - 1, 0).fan(way), 0);
                    }
                }
            }
        }
        // At 3, 4: 25, of a tall one 100.
        Check.due("3, 4, reach 5", lone(3, 4, "plain", 5, 30).fan(2), 1);
        Check.due("3, 4, reach 4", lone(3, 4, "plain", 4, 30).fan(2), 0);
        Check.due("3, 4, tall, reach 10", lone(3, 4, "tall", 10, 30).fan(2), 1);
        Check.due("3, 4, tall, reach 9", lone(3, 4, "tall", 9, 30).fan(2), 0);
        Check.due("1, 1, reach 1", lone(1, 1, "plain", 1, 30).fan(2), 0);
    }

    @Says("and x times x and y times y together no more than reach times reach (of a tall one: four times that sum)")
    static void term2_theFarthestOnACake() {
        String far = "cake near 0 wax 3;candle a at 20,20 plain;candle b at 0,15 tall;candle c at 0,16 tall;candle d at 20,0 again;"
            + "place o at 0,0;person p reach 30 spread 0;person q reach 29 spread 0;person r reach 28 spread 0;person s reach 20 spread 0";
        ThreeBreaths x = Check.told(far);
        Check.due("20, 20, reach 30", x.fan(x.breath(0, 0, 2)), 1);
        Check.due("20, 20, reach 29", x.fan(x.breath(1, 0, 2)), 1);
        Check.due("20, 20, reach 28", x.fan(x.breath(2, 0, 2)), 0);
        Check.due("tall, reach 30", x.fan(x.breath(0, 0, 4)), 2);
        Check.due("tall, reach 29", x.fan(x.breath(1, 0, 4)), 0);
        Check.due("20, 0, reach 20", x.fan(x.breath(3, 0, 0)), 8);
    }

    @Says("or if it lies at the place itself")
    static void term2_atThePlaceItself() {
        for (String kind : new String[] {"plain", "tall", "again", "trick"}) {
            ThreeBreaths x = lone(0, 0, kind, 1, 0);
            ThreeBreaths wide = lone(0, 0, kind, 30, 30);
            for (int way = 0; way < 16; way++) {
                Check.due(kind + ", fan(" + way + ")", x.fan(way), 1);
                Check.due(kind + ", wide, fan(" + way + ")", wide.fan(way), 1);
            }
        }
        // At one of two places only.
        ThreeBreaths x = Check.told("cake near 0 wax 3;candle a at 5,5 tall;place o at 5,5;place m at 5,6;person p reach 1 spread 30");
        for (int way = 0; way < 16; way++) {
            Check.due("at it", x.fan(way), 1);
            Check.due("beside it, a tall one, reach 1", x.fan(16 + way), 0);
        }
    }

    @Says("BREATHS have numbers: person by person, place by place, WAY by WAY (16 times (places times the person and the place) and the WAY).")
    static void term2_numbersOfBreaths() {
        for (int places = 1; places <= 5; places++) {
            for (int people = 1; people <= 4; people++) {
                StringBuilder text = new StringBuilder("cake near 0 wax 3;candle a at 1,0 plain");
                for (int i = 0; i < places; i++) {
                    text.append(";place o").append((char) ('a' + i)).append(" at ").append(i).append(",0");
                }
                for (int i = 0; i < people; i++) {
                    text.append(";person p").append((char) ('a' + i)).append(" reach 1 spread 0");
                }
                ThreeBreaths x = new ThreeBreaths();
                int last = 16 * places * people - 1;
                Check.due("breaths", Check.cake(x, text.toString()), last + 1);
                Check.due("the first", x.breath(0, 0, 0), 0);
                Check.due("the last way of the first place", x.breath(0, 0, 15), 15);
                Check.due("the last", x.breath(people - 1, places - 1, 15), last);
                Check.due("the last one's person", x.breathOf(last, 0), people - 1);
                Check.due("the last one's place", x.breathOf(last, 1), places - 1);
                Check.due("the last one's way", x.breathOf(last, 2), 15);
                if (places > 1) {
                    Check.due("the second place", x.breath(0, 1, 0), 16);
                }
                if (people > 1) {
                    Check.due("the second person", x.breath(1, 0, 0), 16 * places);
                }
                Check.due("behind the last", x.fan(last + 1), -1);
            }
        }
    }

    // ---- one breath behind the other

    private static void state(ThreeBreaths x, String when, int burning, int dazed) {
        Check.due("burning() " + when, x.burning(), burning);
        Check.due("dazed() " + when, x.dazed(), dazed);
    }

    @Says("All candles burn at first, none is DAZED.")
    static void term2_allBurnAtFirst() {
        state(lone(1, 0, "trick", 1, 0), "of one", 1, 0);
        StringBuilder text = new StringBuilder("cake near 20 wax 3;place o at 0,0;person p reach 30 spread 30");
        for (int i = 0; i < 10; i++) {
            text.append(";candle c").append((char) ('a' + i)).append(" at 0,0 ").append(i < 3 ? "trick" : i < 6 ? "again" : "tall");
        }
        ThreeBreaths x = Check.told(text.toString());
        state(x, "of ten", 1023, 0);
        x.blow(0);
        Check.cake(x, text.toString());
        state(x, "of ten, told again", 1023, 0);
    }

    // Way 0 has the trick one in it, way 4 the plain one, way 8 none.
    private static final String TRICK = "cake near 0 wax 3;candle a at 1,0 trick;candle b at 0,1 plain;place o at 0,0;person p reach 1 spread 0";

    @Says("each that burns and is IN its FAN goes out; but a trick one that isn't DAZED stays lit and is DAZED from then on.")
    static void term2_aTrickOneHoldsOutOnce() {
        ThreeBreaths x = Check.told(TRICK);
        Check.due("blow(0)", x.blow(0), 2);
        state(x, "behind one breath", 3, 1);
        Check.due("blow(0) again", x.blow(0), 1);
        state(x, "behind two", 2, 0);
        Check.due("blow(4)", x.blow(4), 0);
        state(x, "behind three", 0, 0);
        // At the place itself it is IN every FAN: any two breaths put it out.
        x = Check.told(TRICK.replace("a at 1,0", "a at 0,0"));
        Check.due("blow(8)", x.blow(8), 2);
        state(x, "dazed at the place", 3, 1);
        Check.due("blow(4)", x.blow(4), 0);
        // No other kind holds out or is dazed.
        for (String kind : new String[] {"plain", "tall", "again"}) {
            x = lone(1, 0, kind, 2, 0);
            Check.due("blow(0), " + kind, x.blow(0), 0);
            state(x, kind, 0, 0);
        }
    }

    @Says("A trick one that isn't IN it isn't DAZED any more (nor one that is out).")
    static void term2_dazedNoMore() {
        ThreeBreaths x = Check.told(TRICK);
        x.blow(0);
        x.blow(8);
        state(x, "a breath past it", 3, 0);
        x.blow(0);
        state(x, "dazed anew", 3, 1);
        x.blow(4);
        state(x, "another put out past it", 1, 0);
        x.blow(0);
        x.blow(0);
        state(x, "out", 0, 0);
        x.blow(0);
        state(x, "out, blown at", 0, 0);
        x.light(0);
        state(x, "lit", 1, 0);
        x.blow(0);
        state(x, "lit, blown at", 1, 1);
        x.blow(8);
        state(x, "lit, blown past", 1, 0);
    }

    @Says("A trick one that isn't IN it isn't DAZED any more (nor one that is out).")
    static void term2_threeTrickOnesEachDazedAlone() {
        ThreeBreaths x = Check.told("cake near 0 wax 3;candle a at 1,0 trick;candle z at 9,9 tall;candle b at 0,1 trick;candle c at 1,1 trick;"
            + "place o at 0,0;person p reach 2 spread 0;person q reach 2 spread 10");
        int[] fans = {1, 8, 4};
        int[] ways = {0, 2, 4};
        for (int first = 0; first < 3; first++) {
            for (int second = 0; second < 3; second++) {
                x.all();
                x.blow(ways[first]);
                state(x, "behind one", 15, fans[first]);
                x.blow(ways[second]);
                state(x, "behind another", first == second ? 15 - fans[first] : 15, first == second ? 0 : fans[second]);
            }
        }
        // q's way 2 has all three in it: two breaths put out all three.
        x.all();
        Check.due("all three in one fan", x.fan(x.breath(1, 0, 2)), 13);
        x.blow(x.breath(1, 0, 2));
        state(x, "all three dazed", 15, 13);
        x.blow(0);
        state(x, "one out, two not dazed any more", 14, 0);
        x.undo();
        x.blow(x.breath(1, 0, 2));
        state(x, "all three out", 2, 0);
    }

    /** Of an again one at 0, 0, out, and another one that burns at x, y: whether a breath past both lights it. */
    private static void lightsAgain(int near, int x, int y, boolean does) {
        ThreeBreaths t = Check.told("cake near " + near + " wax 3;candle c at 0,0 again;candle d at " + x + "," + y
            + " plain;place m at " + x + "," + y + ";place o at 0,0;place z at 20,20;person p reach 1 spread 0");
        String name = "near " + near + ", " + x + ", " + y;
        t.blow(t.breath(0, 0, 4));
        t.blow(t.breath(0, 1, 12));
        Check.due("all out, " + name, t.burning(), 0);
        Check.due("none burns, none lights, " + name, t.blow(t.breath(0, 2, 0)), 0);
        t.light(1);
        Check.due("light alone lights no other, " + name, t.burning(), 2);
        Check.due("blow past both, " + name, t.blow(t.breath(0, 2, 0)), does ? 2 : 1);
        Check.due("burning(), " + name, t.burning(), does ? 3 : 2);
    }

    @Says("Then each again one that is out lights again, if there burns one, whose distance is no more than near (squares of both), at that moment;")
    static void term2_lightsAgainAtTheVeryEdgeOfNear() {
        for (int near = 0; near <= 20; near++) {
            lightsAgain(near, near, 0, true);
            lightsAgain(near, 0, near, true);
            lightsAgain(near, near, 1, false);
            lightsAgain(near, 1, near, false);
            if (near < 20) {
                lightsAgain(near, near + 1, 0, false);
                lightsAgain(near, 0, near + 1, false);
            }
        }
        lightsAgain(5, 3, 4, true);
        lightsAgain(5, 4, 4, false);
        lightsAgain(13, 5, 12, true);
        lightsAgain(13, 6, 12, false);
        lightsAgain(20, 12, 16, true);
        lightsAgain(20, 13, 16, false);
    }

    @Says("at that moment")
    static void term2_lightsAgainOnlyFromWhatBurnsThen() {
        // One breath has both in it: nothing burns any more that could light the again one.
        ThreeBreaths x = Check.told("cake near 5 wax 3;candle a at 1,0 again;candle b at 2,0 plain;candle c at 0,1 again;place o at 0,0;"
            + "person p reach 2 spread 0;person q reach 1 spread 0;person r reach 2 spread 20");
        Check.due("the fan of all but c", x.fan(0), 3);
        Check.due("c lights a again, b stays out", x.blow(0), 2);
        state(x, "then", 5, 0);
        x.all();
        Check.due("q has only a in it", x.fan(16), 1);
        Check.due("what was out lights again at once", x.blow(16), 3);
        x = Check.told("cake near 5 wax 3;candle a at 1,0 again;candle b at 2,0 again;place o at 0,0;person p reach 2 spread 0");
        Check.due("both out at one moment", x.blow(0), 0);
        Check.due("both stay out", x.blow(8), 0);
        // A trick one that holds out burns; one that goes out doesn't.
        x = Check.told("cake near 5 wax 3;candle a at 1,0 again;candle b at 2,0 trick;place o at 0,0;person p reach 2 spread 0");
        Check.due("the trick one holds out", x.blow(0), 2);
        state(x, "then", 3, 2);
        Check.due("both out", x.blow(0), 0);
        // Only again ones light again.
        for (String kind : new String[] {"plain", "tall", "trick"}) {
            x = Check.told("cake near 5 wax 3;candle a at 1,0 " + kind + ";candle b at 0,1 plain;place o at 0,0;person p reach 2 spread 0");
            x.blow(0);
            x.blow(0);
            Check.due(kind + " stays out", x.burning(), 2);
        }
    }

    @Says("all at once")
    static void term2_allLightAgainAtOnce() {
        ThreeBreaths x = Check.told("cake near 1 wax 3;candle a at 1,5 plain;candle d at 4,5 again;candle b at 2,5 again;candle c at 3,5 again;"
            + "place o at 0,5;place z at 0,0;person p reach 9 spread 0");
        x.blow(0);
        Check.due("all out", x.burning(), 0);
        x.light(0);
        int past = x.breath(0, 1, 0);
        int[] then = {5, 13, 15, 15};
        for (int burning : then) {
            x.blow(past);
            Check.due("one more of the chain", x.burning(), burning);
        }
        // One that burns lights on both sides at once.
        x.blow(0);
        x.light(3);
        x.blow(past);
        Check.due("both sides of c", x.burning(), 14);
    }

    // ---- the fewest

    @Says("the fewest, one behind the other, from NOW on till none burns; -2 if it can't be.")
    static void term2_fewest() {
        // o has a and b, m has b and c; p reaches all, q what is one off.
        String text = "cake near 0 wax 3;candle a at 0,1 plain;candle b at 5,0 plain;candle c at 9,1 plain;place o at 0,0;place m at 9,0;"
            + "person p reach 5 spread 0;person q reach 1 spread 0";
        ThreeBreaths x = Check.told(text);
        Check.due("of all", x.fewest(), 3);
        Check.due("of o", x.from(0), -2);
        Check.due("of m", x.from(1), -2);
        Check.due("of p", x.by(0), 3);
        Check.due("of q", x.by(1), -2);
        x.blow(x.breath(0, 0, 0));
        state(x, "b out", 5, 0);
        Check.due("of all, b out", x.fewest(), 2);
        Check.due("of q, b out", x.by(1), 2);
        x.blow(x.breath(0, 0, 4));
        Check.due("of all, c burns", x.fewest(), 1);
        Check.due("of o, c burns", x.from(0), -2);
        Check.due("of m, c burns", x.from(1), 1);
        x.blow(x.breath(1, 1, 4));
        state(x, "none burns", 0, 0);
        Check.due("of all, none burns", x.fewest(), 0);
        Check.due("of o, none burns", x.from(0), 0);
        Check.due("of q, none burns", x.by(1), 0);
        // A candle that no fan has; two that light each other for ever; just one trick one.
        Check.due("spared", lone(5, 5, "plain", 1, 30).fewest(), -2);
        x = Check.told("cake near 9 wax 9;candle a at 1,0 again;candle b at 0,1 again;place o at 0,0;person p reach 1 spread 0");
        Check.due("each lights the other", x.fewest(), -2);
        Check.due("a trick one", lone(1, 0, "trick", 1, 0).fewest(), 2);
    }

    @Says("The ROW of it: of like ones the first by numbers, from the first on.")
    static void term2_row() {
        ThreeBreaths x = Check.told(TRICK);
        int[] trickFirst = {0, 0, 4};
        for (int i = 0; i < 3; i++) {
            Check.due("trick one on way 0: row(" + i + ")", x.row(i), trickFirst[i]);
        }
        x = Check.told(TRICK.replace("a at 1,0", "a at 0,1").replace("b at 0,1", "b at 1,0"));
        int[] plainFirst = {0, 4, 4};
        for (int i = 0; i < 3; i++) {
            Check.due("trick one on way 4: row(" + i + ")", x.row(i), plainFirst[i]);
        }
        // Of like breaths the least number: the first place, the first person, the first way.
        x = Check.told("cake near 0 wax 3;candle a at 5,5 plain;place m at 9,9;place o at 5,5;place z at 5,5;person q reach 3 spread 0;"
            + "person p reach 9 spread 0");
        Check.due("row(0), one breath of many", x.row(0), 16);
        Check.due("row(1), one breath of many", x.row(1), -1);
        // The first breath of all can be the least only if the rest still can be done in time: here the rest is of greater numbers.
        x = Check.told("cake near 3 wax 3;candle a at 5,2 plain;candle b at 5,8 again;candle c at 7,5 plain;place o at 5,5;person p reach 3 spread 0");
        // b lights again as long as c burns (2, 3 off: no), or a (6 off: no): near is 3, c to b 13 > 9.
        Check.due("fewest()", x.fewest(), 3);
        Check.due("row(0)", x.row(0), 0);
        Check.due("row(1)", x.row(1), 4);
        Check.due("row(2)", x.row(2), 12);
        x = Check.told("cake near 4 wax 3;candle a at 5,2 plain;candle b at 5,8 again;candle c at 7,5 plain;place o at 5,5;person p reach 3 spread 0");
        Check.due("c lights b: c first all the same", x.row(0), 0);
        x = Check.told("cake near 6 wax 3;candle a at 5,2 plain;candle b at 7,5 again;candle c at 5,8 plain;place o at 5,5;person p reach 3 spread 0");
        Check.due("b last, though its number is least: fewest()", x.fewest(), 3);
        Check.due("b last: row(0)", x.row(0), 4);
        Check.due("b last: row(1)", x.row(1), 12);
        Check.due("b last: row(2)", x.row(2), 0);
    }

    @Says("WALK of a person alone, being at a place: of rows of FEWEST of its own BREATHS the least way in all, from place to place (x and y apart, "
        + "together); -2 if it can't be.")
    static void term2_walk() {
        // a only from o, b only from m, which are 3 and 4 apart; z is 2 from o and 9 from m.
        ThreeBreaths x = Check.told("cake near 0 wax 2;candle a at 4,4 plain;candle b at 9,9 plain;place o at 5,4;place m at 8,8;place z at 3,4;"
            + "person p reach 2 spread 10;person q reach 1 spread 0");
        Check.due("fewest of p", x.by(0), 2);
        Check.due("from o", x.walk(0, 0), 7);
        Check.due("from m", x.walk(0, 1), 7);
        // a is 1 from z, too: from z none needs o.
        Check.due("from z", x.walk(0, 2), 9);
        Check.due("of q, which can't", x.walk(1, 0), -2);
        x.blow(x.breath(0, 0, 8));
        Check.due("a out", x.burning(), 2);
        Check.due("to m from o", x.walk(0, 0), 7);
        Check.due("to m from z", x.walk(0, 2), 9);
        Check.due("at m already", x.walk(0, 1), 0);
        x.blow(x.breath(0, 1, 2));
        Check.due("none burns", x.burning(), 0);
        Check.due("none needed", x.walk(0, 2), 0);
        Check.due("none needed of q", x.walk(1, 2), 0);
        // Fewest go ahead of the way: two from o, or one from m, 20 off.
        x = Check.told("cake near 0 wax 2;candle a at 5,0 plain;candle b at 0,5 plain;place o at 0,0;place m at 10,10;person p reach 13 spread 4");
        Check.due("one breath, though far", x.walk(0, 0), 20);
        Check.due("from there", x.walk(0, 1), 0);
        // The same place told twice is no way apart.
        x = Check.told("cake near 0 wax 2;candle a at 1,0 plain;place o at 0,0;place m at 0,0;person p reach 1 spread 0");
        Check.due("no way", x.walk(0, 1), 0);
    }

    private static String people(int count, String line) {
        StringBuilder text = new StringBuilder();
        for (int i = 0; i < count; i++) {
            text.append(";person p").append((char) ('a' + i)).append(' ').append(line);
        }
        return text.toString();
    }

    @Says("EACH: the fewest people who can do it, each with one BREATH at most, in whatever order; -2.")
    static void term2_each() {
        String[] lines = {"candle a at 1,0 plain", "candle b at 2,1 plain", "candle c at 1,1 plain", "candle d at 1,2 plain", "candle e at 0,1 plain"};
        StringBuilder text = new StringBuilder("cake near 0 wax 9;place o at 0,0");
        for (int candles = 1; candles <= 5; candles++) {
            text.append(';').append(lines[candles - 1]);
            for (int people = 1; people <= 4; people++) {
                ThreeBreaths x = Check.told(text + people(people, "reach 3 spread 0"));
                String name = candles + " candles, " + people + " people";
                Check.due("each(), " + name, x.each(), people < candles ? -2 : candles);
                Check.due("team(), " + name, x.team(), people < candles ? -2 : (1 << candles) - 1);
                Check.due("fewest(), " + name, x.fewest(), candles);
            }
        }
        // The one who must come first is told last: q puts out what lights a again.
        ThreeBreaths x = Check.told("cake near 5 wax 9;candle a at 1,0 again;candle b at 0,5 plain;place o at 0,0;person p reach 1 spread 0;"
            + "person q reach 5 spread 0");
        Check.due("in whatever order", x.each(), 2);
        x = Check.told("cake near 5 wax 9;candle a at 1,0 again;candle b at 0,5 plain;place o at 0,0;person q reach 5 spread 0;"
            + "person p reach 1 spread 0");
        Check.due("in the other order", x.each(), 2);
        // None burns: nobody is needed.
        x = lone(1, 0, "plain", 1, 0);
        x.blow(0);
        Check.due("each(), none burns", x.each(), 0);
        Check.due("team(), none burns", x.team(), 0);
    }

    @Says("TEAM: of like ones the least bits of people.")
    static void term2_team() {
        String far = "cake near 0 wax 9;candle a at 9,0 plain;candle b at 0,9 plain;place o at 0,0";
        Check.due("the first two of four", Check.told(far + people(4, "reach 9 spread 0")).team(), 3);
        ThreeBreaths x = Check.told(far + ";person p reach 8 spread 0" + people(3, "reach 9 spread 0"));
        Check.due("the first one can't", x.team(), 6);
        x = Check.told(far + ";person p reach 9 spread 0;person q reach 8 spread 0;person r reach 8 spread 0;person s reach 9 spread 0");
        Check.due("the first and the last", x.team(), 9);
        x = Check.told(far + ";person p reach 9 spread 0;person q reach 9 spread 0;person r reach 9 spread 0;person s reach 9 spread 10;place m at 20,20"
            .replace("reach 9 spread 10", "reach 30 spread 5"));
        Check.due("fewer people go ahead of lesser bits: each()", x.each(), 1);
        Check.due("fewer people go ahead of lesser bits: team()", x.team(), 8);
    }
}
