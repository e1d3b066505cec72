/** Promises 6 to 12: candles, the fans of breaths and their numbers, what lights what. */
public final class Promise6To12Test {
    private static final String FOUR = "cake near 2 wax 3;candle a at 1,2 plain;candle b at 3,4 tall;candle c at 0,20 again;"
        + "candle d at 20,0 trick;place o at 0,0;person p reach 30 spread 1";

    public static void main(String[] args) {
        Sentences.run(Promise6To12Test.class);
    }

    // ---- 6

    @Says("Of a candle 0 x, 1 y, 2 its KIND (0 plain, 1 tall, 2 again, 3 trick).")
    static void promise06_candle() {
        int[][] want = {{1, 2, 0}, {3, 4, 1}, {0, 20, 2}, {20, 0, 3}};
        for (int c = 0; c < 4; c++) {
            for (int what = 0; what < 3; what++) {
                int candle = c;
                int asked = what;
                Refusals.asks(() -> Refusals.used(FOUR), "candle(" + c + ", " + what + ")", x -> x.candle(candle, asked), want[c][what]);
            }
        }
    }

    @Says("NONE: 1.")
    static void promise06_noSuchCandle() {
        for (int what = 0; what < 3; what++) {
            int asked = what;
            Refusals.bounds(Refusals::none, 0, -1, "candle(*, " + what + ")", (x, i) -> x.candle(i, asked), -1, 1);
            Refusals.bounds(Refusals::small, 0, 0, "candle(*, " + what + ")", (x, i) -> x.candle(i, asked), -1, 1);
            Refusals.bounds(Refusals::full, 0, 9, "candle(*, " + what + ")", (x, i) -> x.candle(i, asked), -1, 1);
        }
    }

    @Says("Of a candle 0 x, 1 y, 2 its KIND")
    static void promise06_nothingElseOfACandle() {
        Refusals.bounds(Refusals::none, 0, -1, "candle(0, *)", (x, i) -> x.candle(0, i), -1, 1);
        Refusals.bounds(Refusals::small, 0, 2, "candle(0, *)", (x, i) -> x.candle(0, i), -1, 1);
        Refusals.bounds(Refusals::full, 0, 2, "candle(9, *)", (x, i) -> x.candle(9, i), -1, 1);
        Refusals.bounds(Refusals::full, 0, -1, "candle(10, *)", (x, i) -> x.candle(10, i), -1, 1);
    }

    // ---- 7

    @Says("Candles IN the FAN of a BREATH, as bits.")
    static void promise07_fan() {
        // Ten in a row on way 0, one more of them from place to place.
        StringBuilder text = new StringBuilder("cake near 2 wax 3;person p reach 30 spread 0");
        for (int i = 0; i < 10; i++) {
            text.append(";candle c").append((char) ('a' + i)).append(" at ").append(i + 1).append(",7 plain");
        }
        int[] places = {0, 5, 9, 10, 11};
        for (int i = 0; i < 5; i++) {
            text.append(";place o").append((char) ('a' + i)).append(" at ").append(places[i]).append(",7");
        }
        int[] ahead = {1023, 0b1111110000, 0b1100000000, 0b1000000000, 0};
        int[] back = {0, 0b11111, 0b111111111, 0b1111111111, 0b1111111111};
        int[] none = {0, 0b10000, 0b100000000, 0b1000000000, 0};
        for (int place = 0; place < 5; place++) {
            int first = 16 * place;
            Refusals.asks(() -> Refusals.used(text.toString()), "fan ahead", x -> x.fan(first), ahead[place]);
            Refusals.asks(() -> Refusals.used(text.toString()), "fan back", x -> x.fan(first + 8), back[place]);
            Refusals.asks(() -> Refusals.used(text.toString()), "fan aside", x -> x.fan(first + 4), none[place]);
        }
    }

    @Says("Candles IN the FAN of a BREATH")
    static void promise07_whetherTheyBurnOrNot() {
        ThreeBreaths x = Check.told(Refusals.SMALL);
        Check.due("fan(0)", x.fan(0), 1);
        x.blow(0);
        Check.due("burning()", x.burning(), 0);
        Check.due("fan(0) of one that is out", x.fan(0), 1);
    }

    @Says("NONE: 1.")
    static void promise07_noSuchBreath() {
        Refusals.bounds(Refusals::none, 0, -1, "fan", ThreeBreaths::fan, -1, 1);
        Refusals.bounds(Refusals::small, 0, 15, "fan", ThreeBreaths::fan, -1, 1);
        Refusals.bounds(Refusals::full, 0, 319, "fan", ThreeBreaths::fan, -1, 1);
    }

    // ---- 8

    @Says("The number of a BREATH.")
    static void promise08_breath() {
        ThreeBreaths x = Check.told(Refusals.FULL);
        int number = 0;
        for (int person = 0; person < 4; person++) {
            for (int place = 0; place < 5; place++) {
                for (int way = 0; way < 16; way++) {
                    if (number % 3 == 0) {
                        Check.due(x, "breath(" + person + ", " + place + ", " + way + ")", x.breath(person, place, way), number, 0);
                    }
                    number++;
                }
            }
        }
        Refusals.asks(Refusals::full, "breath(3, 4, 15)", y -> y.breath(3, 4, 15), 319);
        Refusals.asks(Refusals::small, "breath(0, 0, 15)", y -> y.breath(0, 0, 15), 15);
    }

    @Says("NONE: 1 (person, place, WAY).")
    static void promise08_noSuchPerson() {
        Refusals.bounds(Refusals::none, 0, -1, "breath(*, 0, 0)", (x, i) -> x.breath(i, 0, 0), -1, 1);
        Refusals.bounds(Refusals::small, 0, 0, "breath(*, 0, 0)", (x, i) -> x.breath(i, 0, 0), -1, 1);
        Refusals.bounds(Refusals::full, 0, 3, "breath(*, 0, 0)", (x, i) -> x.breath(i, 0, 0), -1, 1);
        Refusals.bounds(Refusals::full, 0, 3, "breath(*, 4, 15)", (x, i) -> x.breath(i, 4, 15), -1, 1);
    }

    @Says("NONE: 1 (person, place, WAY).")
    static void promise08_noSuchPlace() {
        Refusals.bounds(Refusals::none, 0, -1, "breath(0, *, 0)", (x, i) -> x.breath(0, i, 0), -1, 1);
        Refusals.bounds(Refusals::small, 0, 0, "breath(0, *, 0)", (x, i) -> x.breath(0, i, 0), -1, 1);
        Refusals.bounds(Refusals::full, 0, 4, "breath(0, *, 0)", (x, i) -> x.breath(0, i, 0), -1, 1);
        Refusals.bounds(Refusals::full, 0, 4, "breath(3, *, 15)", (x, i) -> x.breath(3, i, 15), -1, 1);
    }

    @Says("NONE: 1 (person, place, WAY).")
    static void promise08_noSuchWay() {
        Refusals.bounds(Refusals::none, 0, -1, "breath(0, 0, *)", (x, i) -> x.breath(0, 0, i), -1, 1);
        Refusals.bounds(Refusals::small, 0, 15, "breath(0, 0, *)", (x, i) -> x.breath(0, 0, i), -1, 1);
        Refusals.bounds(Refusals::full, 0, 15, "breath(1, 2, *)", (x, i) -> x.breath(1, 2, i), -1, 1);
        // What would be a number of another breath all the same.
        Refusals.refused(Refusals::full, "breath(1, -1, 0)", x -> x.breath(1, -1, 0), -1, 1);
        Refusals.refused(Refusals::full, "breath(0, 1, -16)", x -> x.breath(0, 1, -16), -1, 1);
        Refusals.refused(Refusals::full, "breath(-1, 5, 0)", x -> x.breath(-1, 5, 0), -1, 1);
    }

    // ---- 9

    @Says("Of a BREATH 0 its person, 1 its place, 2 its WAY.")
    static void promise09_breathOf() {
        for (int b = 0; b < 320; b += 13) {
            int breath = b;
            Refusals.asks(Refusals::full, "breathOf(" + b + ", 0)", x -> x.breathOf(breath, 0), b / 80);
            Refusals.asks(Refusals::full, "breathOf(" + b + ", 1)", x -> x.breathOf(breath, 1), b / 16 % 5);
            Refusals.asks(Refusals::full, "breathOf(" + b + ", 2)", x -> x.breathOf(breath, 2), b % 16);
        }
        Refusals.asks(Refusals::full, "breathOf(319, 0)", x -> x.breathOf(319, 0), 3);
        Refusals.asks(Refusals::full, "breathOf(319, 1)", x -> x.breathOf(319, 1), 4);
        Refusals.asks(Refusals::full, "breathOf(319, 2)", x -> x.breathOf(319, 2), 15);
    }

    @Says("NONE: 1.")
    static void promise09_noSuchBreath() {
        for (int what = 0; what < 3; what++) {
            int asked = what;
            Refusals.bounds(Refusals::none, 0, -1, "breathOf(*, " + what + ")", (x, i) -> x.breathOf(i, asked), -1, 1);
            Refusals.bounds(Refusals::small, 0, 15, "breathOf(*, " + what + ")", (x, i) -> x.breathOf(i, asked), -1, 1);
            Refusals.bounds(Refusals::full, 0, 319, "breathOf(*, " + what + ")", (x, i) -> x.breathOf(i, asked), -1, 1);
        }
    }

    @Says("0 its person, 1 its place, 2 its WAY.")
    static void promise09_nothingElseOfABreath() {
        Refusals.bounds(Refusals::none, 0, -1, "breathOf(0, *)", (x, i) -> x.breathOf(0, i), -1, 1);
        Refusals.bounds(Refusals::small, 0, 2, "breathOf(15, *)", (x, i) -> x.breathOf(15, i), -1, 1);
        Refusals.bounds(Refusals::full, 0, 2, "breathOf(319, *)", (x, i) -> x.breathOf(319, i), -1, 1);
        Refusals.bounds(Refusals::full, 0, -1, "breathOf(320, *)", (x, i) -> x.breathOf(320, i), -1, 1);
    }

    // ---- 10

    private static void fans(String text, long want) {
        Refusals.asks(() -> Refusals.used(text), "fans() of \"" + text + "\"", ThreeBreaths::fans, want);
    }

    @Says("How many unlike FANS there are (of all BREATHS), those without candles aside.")
    static void promise10_fans() {
        String two = "cake near 2 wax 3;candle a at 2,0 plain;candle b at 0,2 plain;place o at 0,0;person p reach 2 spread 0";
        fans(two, 2);
        // Like ones of another person and of another place are one.
        fans(two + ";person q reach 3 spread 0", 2);
        fans(two + ";place m at 0,0", 2);
        fans(two + ";person q reach 2 spread 30", 3);
        fans(two + ";place m at 2,2", 2);
        fans(two + ";place m at 2,0", 2);
        fans(two.replace("reach 2", "reach 3") + ";place m at 2,0", 3);
        // None without candles, and all without.
        fans("cake near 2 wax 3;candle a at 0,0 plain;place o at 0,0;person p reach 2 spread 0", 1);
        fans("cake near 2 wax 3;candle a at 0,0 plain;candle b at 1,0 plain;place o at 0,0;person p reach 2 spread 0", 2);
        fans("cake near 2 wax 3;candle a at 9,9 plain;place o at 0,0;person p reach 2 spread 0", 0);
        // The last breath of all has a fan of its own.
        fans("cake near 2 wax 3;candle a at 9,8 plain;place o at 0,0;place m at 7,9;person p reach 1 spread 0;person q reach 3 spread 0", 1);
    }

    @Says("(of all BREATHS)")
    static void promise10_whateverBurns() {
        ThreeBreaths x = Check.told(Refusals.FULL);
        boolean[] seen = new boolean[1024];
        int unlike = 0;
        for (int b = 0; b < 320; b++) {
            int fan = x.fan(b);
            if (fan != 0 && !seen[fan]) {
                seen[fan] = true;
                unlike++;
            }
        }
        Check.due("fans()", x.fans(), unlike);
        for (int i = 0; i < 20; i++) {
            x.blow(x.greedy());
        }
        Check.due("fans(), less burn", x.fans(), unlike);
    }

    @Says("NONE: 1 (no CAKE).")
    static void promise10_noCake() {
        Refusals.refused(Refusals::none, "fans()", ThreeBreaths::fans, -1, 1);
    }

    // ---- 11

    @Says("Candles that no BREATH has IN its FAN, as bits.")
    static void promise11_spared() {
        String text = "cake near 2 wax 3;candle a at 2,0 plain;candle b at 9,9 plain;candle c at 0,2 plain;candle d at 0,3 tall;place o at 0,0;"
            + "person p reach 2 spread 0";
        Refusals.asks(() -> Refusals.used(text), "spared()", ThreeBreaths::spared, 10);
        Refusals.asks(() -> Refusals.used(text + ";person q reach 6 spread 0"), "spared(), a second person", ThreeBreaths::spared, 2);
        Refusals.asks(() -> Refusals.used(text + ";place m at 9,9"), "spared(), a second place", ThreeBreaths::spared, 8);
        Refusals.asks(Refusals::small, "spared(), none", ThreeBreaths::spared, 0);
        StringBuilder ten = new StringBuilder("cake near 2 wax 3;place o at 0,0;person p reach 1 spread 30");
        for (int i = 0; i < 10; i++) {
            ten.append(";candle c").append((char) ('a' + i)).append(" at 2,").append(i).append(" plain");
        }
        Refusals.asks(() -> Refusals.used(ten.toString()), "spared(), all ten", ThreeBreaths::spared, 1023);
    }

    @Says("NONE: 1 (no CAKE).")
    static void promise11_noCake() {
        Refusals.refused(Refusals::none, "spared()", ThreeBreaths::spared, -1, 1);
    }

    // ---- 12

    // a to b 25, a to c 32, a to d 25, a to e 0, b to c 1, b to d 10, b to e 25, c to d 17, c to e 32.
    private static final String FIVE = "cake near 5 wax 3;candle a at 0,0 again;candle b at 3,4 again;candle c at 4,4 plain;"
        + "candle d at 0,5 trick;candle e at 0,0 tall;place o at 0,0;person p reach 3 spread 0";

    @Says("Of a candle those that it lights again")
    static void promise12_thoseThatItLightsAgain() {
        int[] want = {2, 1, 2, 3, 3};
        for (int c = 0; c < 5; c++) {
            int candle = c;
            Refusals.asks(() -> Refusals.used(FIVE), "lights(" + c + ", false)", x -> x.lights(candle, false), want[c]);
        }
    }

    @Says("or (it) those that light it, if it is an again one, by near, as bits.")
    static void promise12_thoseThatLightIt() {
        int[] want = {26, 29, 0, 0, 0};
        for (int c = 0; c < 5; c++) {
            int candle = c;
            Refusals.asks(() -> Refusals.used(FIVE), "lights(" + c + ", true)", x -> x.lights(candle, true), want[c]);
        }
    }

    @Says("by near")
    static void promise12_byNear() {
        for (int near = 0; near <= 20; near++) {
            String text = "cake near " + near + " wax 3;candle a at 0,0 again;candle b at " + near + ",0 plain;candle c at 0," + near
                + " plain;candle d at " + near + ",1 plain;candle e at 1," + near + " plain;place o at 0,0;person p reach 1 spread 0";
            Refusals.asks(() -> Refusals.used(text), "lights(0, true), near " + near, x -> x.lights(0, true), 6);
            Refusals.asks(() -> Refusals.used(text), "lights(0, false), near " + near, x -> x.lights(0, false), 0);
            for (int c = 1; c < 5; c++) {
                int candle = c;
                Refusals.asks(() -> Refusals.used(text), "lights(" + c + ", false), near " + near, x -> x.lights(candle, false), c < 3 ? 1 : 0);
            }
        }
    }

    @Says("Of a candle those that it lights again")
    static void promise12_neverItself() {
        // All ten at one point, the odd ones again.
        StringBuilder text = new StringBuilder("cake near 0 wax 3;place o at 0,0;person p reach 1 spread 0");
        for (int i = 0; i < 10; i++) {
            text.append(";candle c").append((char) ('a' + i)).append(" at 5,5 ").append(i % 2 == 1 ? "again" : "plain");
        }
        for (int c = 0; c < 10; c++) {
            int candle = c;
            Refusals.asks(() -> Refusals.used(text.toString()), "lights(" + c + ", false)", x -> x.lights(candle, false), 682 & ~(1 << c));
            Refusals.asks(() -> Refusals.used(text.toString()), "lights(" + c + ", true)", x -> x.lights(candle, true),
                c % 2 == 1 ? 1023 & ~(1 << c) : 0);
        }
    }

    @Says("NONE: 1.")
    static void promise12_noSuchCandle() {
        for (boolean it : new boolean[] {false, true}) {
            Refusals.bounds(Refusals::none, 0, -1, "lights(*, " + it + ")", (x, i) -> x.lights(i, it), -1, 1);
            Refusals.bounds(Refusals::small, 0, 0, "lights(*, " + it + ")", (x, i) -> x.lights(i, it), -1, 1);
            Refusals.bounds(Refusals::full, 0, 9, "lights(*, " + it + ")", (x, i) -> x.lights(i, it), -1, 1);
        }
    }
}
