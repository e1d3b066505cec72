/** Promises 6 to 12: candles, fans, breaths, what lights what. */
public final class CandlesTest {
    private static final String[] WAYS = {
        "1,0", "2,1", "1,1", "1,2", "0,1", "-1,2", "-1,1", "-2,1", "-1,0", "-2,-1", "-1,-1", "-1,-2", "0,-1", "1,-2", "1,-1", "2,-1"};

    public static void main(String[] args) {
        candles();
        breaths();
        straightFans();
        spreads();
        reach();
        unlike();
        lighting();
        withoutCake();
        Check.end("CandlesTest");
    }

    private static void candles() {
        ThreeBreaths x = Check.told("cake near 2 wax 3;candle a at 1,2 plain;candle b at 3,4 tall;candle c at 5,6 again;"
            + "candle d at 20,0 trick;place o at 0,0;person p reach 3 spread 1");
        int[][] want = {{1, 2, 0}, {3, 4, 1}, {5, 6, 2}, {20, 0, 3}};
        for (int c = 0; c < 4; c++) {
            for (int what = 0; what < 3; what++) {
                Check.due(x, "candle(" + c + ", " + what + ")", x.candle(c, what), want[c][what], 0);
            }
        }
        Check.due(x, "candle(4, 0)", x.candle(4, 0), -1, 1);
        Check.due(x, "candle(-1, 0)", x.candle(-1, 0), -1, 1);
        Check.due(x, "candle(0, 3)", x.candle(0, 3), -1, 1);
        Check.due(x, "candle(0, -1)", x.candle(0, -1), -1, 1);
        Check.due(x, "candle(most, most)", x.candle(Integer.MAX_VALUE, Integer.MAX_VALUE), -1, 1);
    }

    private static void breaths() {
        ThreeBreaths x = Check.told("cake near 2 wax 3;candle a at 1,2 plain;place o at 0,0;place p at 1,1;place q at 5,5;"
            + "person r reach 3 spread 1;person s reach 4 spread 1");
        int number = 0;
        for (int person = 0; person < 2; person++) {
            for (int place = 0; place < 3; place++) {
                for (int way = 0; way < 16; way++) {
                    Check.due(x, "breath", x.breath(person, place, way), number, 0);
                    Check.due(x, "breathOf person", x.breathOf(number, 0), person, 0);
                    Check.due(x, "breathOf place", x.breathOf(number, 1), place, 0);
                    Check.due(x, "breathOf way", x.breathOf(number, 2), way, 0);
                    number++;
                }
            }
        }
        Check.due(x, "breath(2, 0, 0)", x.breath(2, 0, 0), -1, 1);
        Check.due(x, "breath(-1, 0, 0)", x.breath(-1, 0, 0), -1, 1);
        Check.due(x, "breath(0, 3, 0)", x.breath(0, 3, 0), -1, 1);
        Check.due(x, "breath(0, -1, 0)", x.breath(0, -1, 0), -1, 1);
        Check.due(x, "breath(0, 0, 16)", x.breath(0, 0, 16), -1, 1);
        Check.due(x, "breath(0, 0, -1)", x.breath(0, 0, -1), -1, 1);
        Check.due(x, "breathOf(96, 0)", x.breathOf(96, 0), -1, 1);
        Check.due(x, "breathOf(-1, 0)", x.breathOf(-1, 0), -1, 1);
        Check.due(x, "breathOf(0, 3)", x.breathOf(0, 3), -1, 1);
        Check.due(x, "breathOf(0, -1)", x.breathOf(0, -1), -1, 1);
        Check.due(x, "fan(96)", x.fan(96), -1, 1);
        Check.due(x, "fan(-1)", x.fan(-1), -1, 1);
    }

    /** Without spread a fan is a line: each way hits the candle that lies on it, and no other. */
    private static void straightFans() {
        for (int way = 0; way < 16; way++) {
            String[] step = WAYS[way].split(",");
            int cx = 10 + 3 * Integer.parseInt(step[0]);
            int cy = 10 + 3 * Integer.parseInt(step[1]);
            ThreeBreaths x = Check.told("cake near 2 wax 3;candle a at " + cx + "," + cy
                + " plain;candle b at 10,10 tall;place o at 10,10;person p reach 30 spread 0");
            for (int blown = 0; blown < 16; blown++) {
                Check.due(x, "candle on way " + way + ", fan(" + blown + ")", x.fan(blown), blown == way ? 3 : 2, 0);
            }
        }
    }

    private static void spreads() {
        // At 10, 1: DOT 10, CROSS 1 by way 0: in it from spread 1 on.
        ThreeBreaths x = Check.told("cake near 2 wax 3;candle a at 10,1 plain;candle b at 10,2 plain;candle c at 10,3 plain;"
            + "candle d at 0,5 plain;place o at 0,0;place m at 20,0;person p reach 30 spread 0;person q reach 30 spread 1;"
            + "person r reach 30 spread 2;person s reach 30 spread 30");
        Check.due("spread 0", x.fan(x.breath(0, 0, 0)), 0);
        Check.due("spread 1", x.fan(x.breath(1, 0, 0)), 1);
        Check.due("spread 2", x.fan(x.breath(2, 0, 0)), 3);
        Check.due("spread 30", x.fan(x.breath(3, 0, 0)), 7);
        Check.due("spread 1, from the other side", x.fan(x.breath(1, 1, 8)), 1);
        Check.due("spread 2, away", x.fan(x.breath(2, 0, 8)), 0);
        // d lies straight up: by way 3 DOT 10, CROSS 5, so from spread 5 on; by way 0 DOT 0, so never.
        Check.due("up, spread 30, way 0", x.fan(x.breath(3, 0, 0)) & 8, 0);
        Check.due("up, spread 30, way 1", x.fan(x.breath(3, 0, 1)) & 8, 8 * (10 * 10 <= 30 * 5 ? 1 : 0));
        Check.due("up, spread 30, way 3", x.fan(x.breath(3, 0, 3)) & 8, 8);
        Check.due("up, spread 2, way 3", x.fan(x.breath(2, 0, 3)) & 8, 0);
    }

    private static void reach() {
        // At 3, 4 the square is 25; of a tall one 100.
        ThreeBreaths x = Check.told("cake near 2 wax 3;candle a at 3,4 plain;candle b at 3,4 tall;candle c at 0,0 tall;place o at 0,0;"
            + "person p reach 4 spread 30;person q reach 5 spread 30;person r reach 9 spread 30;person s reach 10 spread 30");
        Check.due("reach 4", x.fan(x.breath(0, 0, 2)), 4);
        Check.due("reach 5", x.fan(x.breath(1, 0, 2)), 5);
        Check.due("reach 9", x.fan(x.breath(2, 0, 2)), 5);
        Check.due("reach 10", x.fan(x.breath(3, 0, 2)), 7);
        Check.due("reach 10, away", x.fan(x.breath(3, 0, 10)), 4);
    }

    private static void unlike() {
        ThreeBreaths x = Check.told("cake near 2 wax 3;candle a at 2,0 plain;candle b at 0,2 plain;candle c at 20,20 plain;"
            + "place o at 0,0;person p reach 3 spread 0;person q reach 3 spread 0");
        Check.due(x, "fans(), lines", x.fans(), 2, 0);
        Check.due(x, "spared(), lines", x.spared(), 4, 0);
        x = Check.told("cake near 2 wax 3;candle a at 2,0 plain;candle b at 0,0 plain;place o at 0,0;person p reach 3 spread 0");
        Check.due(x, "fans(), one at the place", x.fans(), 2, 0);
        Check.due(x, "spared(), one at the place", x.spared(), 0, 0);
        x = Check.told("cake near 2 wax 3;candle a at 9,9 plain;place o at 0,0;person p reach 3 spread 0");
        Check.due(x, "fans(), none", x.fans(), 0, 0);
        Check.due(x, "spared(), all", x.spared(), 1, 0);
    }

    private static void lighting() {
        ThreeBreaths x = Check.told("cake near 5 wax 3;candle a at 0,0 again;candle b at 3,4 again;candle c at 4,4 plain;"
            + "candle d at 0,5 trick;candle e at 0,0 tall;place o at 0,0;person p reach 3 spread 0");
        // a to b 25, a to c 32, a to d 25, a to e 0, b to c 1, b to d 10, b to e 25.
        int[] lights = {2, 1, 2, 3, 3};
        int[] lighters = {26, 29, 0, 0, 0};
        for (int c = 0; c < 5; c++) {
            Check.due(x, "lights(" + c + ", false)", x.lights(c, false), lights[c], 0);
            Check.due(x, "lights(" + c + ", true)", x.lights(c, true), lighters[c], 0);
        }
        Check.due(x, "lights(5, false)", x.lights(5, false), -1, 1);
        Check.due(x, "lights(-1, true)", x.lights(-1, true), -1, 1);
        x = Check.told("cake near 0 wax 3;candle a at 1,1 again;candle b at 1,1 again;candle c at 1,2 again;place o at 0,0;person p reach 3 spread 0");
        Check.due("lights(0, true), near 0", x.lights(0, true), 2);
        Check.due("lights(0, false), near 0", x.lights(0, false), 2);
        Check.due("lights(2, true), near 0", x.lights(2, true), 0);
    }

    private static void withoutCake() {
        ThreeBreaths x = new ThreeBreaths();
        Check.due(x, "candle(0, 0)", x.candle(0, 0), -1, 1);
        Check.due(x, "fan(0)", x.fan(0), -1, 1);
        Check.due(x, "breath(0, 0, 0)", x.breath(0, 0, 0), -1, 1);
        Check.due(x, "breathOf(0, 0)", x.breathOf(0, 0), -1, 1);
        Check.due(x, "fans()", x.fans(), -1, 1);
        Check.due(x, "spared()", x.spared(), -1, 1);
        Check.due(x, "lights(0, true)", x.lights(0, true), -1, 1);
    }
}
