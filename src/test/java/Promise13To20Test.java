import java.util.function.Supplier;

/** Promises 13 to 20: what burns now, what is dazed, gain and greed, the acts, undo. */
public final class Promise13To20Test {
    // From o: way 0 hits a and b, way 4 hits c and d, all others none.
    private static final String CAKE = "cake near 1 wax 3;candle a at 1,0 plain;candle b at 2,0 trick;candle c at 0,1 again;"
        + "candle d at 0,2 plain;place o at 0,0;person p reach 3 spread 0;left a,d;spot s at 3,3;spot t at 4,4";

    public static void main(String[] args) {
        Sentences.run(Promise13To20Test.class);
    }

    private static void state(ThreeBreaths x, String when, int burning, int dazed) {
        Check.due("burning() " + when, x.burning(), burning);
        Check.due("dazed() " + when, x.dazed(), dazed);
    }

    // ---- 13, 14

    @Says("What burns, as bits.")
    static void promise13_burning() {
        Refusals.asks(() -> Check.told(CAKE), "burning(), all", ThreeBreaths::burning, 15);
        Refusals.asks(() -> Refusals.used(CAKE), "burning(), one", ThreeBreaths::burning, 2);
        ThreeBreaths x = Check.told(CAKE);
        x.blow(0);
        x.blow(0);
        Check.due(x, "burning(), c and d", x.burning(), 12, 0);
        x.blow(4);
        Check.due(x, "burning(), none", x.burning(), 0, 0);
        StringBuilder ten = new StringBuilder("cake near 0 wax 1;place o at 0,0;person p reach 1 spread 0");
        for (int i = 0; i < 10; i++) {
            ten.append(";candle c").append((char) ('a' + i)).append(" at 1,").append(i == 9 ? 1 : 0).append(" plain");
        }
        Check.due("burning(), all of ten", Check.told(ten.toString()).burning(), 1023);
        x = Check.told(ten.toString());
        x.blow(0);
        Check.due("burning(), the tenth", x.burning(), 512);
    }

    @Says("NONE: 1 (no CAKE).")
    static void promise13_noCake() {
        Refusals.refused(Refusals::none, "burning()", ThreeBreaths::burning, -1, 1);
    }

    @Says("What is DAZED, as bits.")
    static void promise14_dazed() {
        Refusals.asks(() -> Check.told(CAKE), "dazed(), none", ThreeBreaths::dazed, 0);
        Supplier<ThreeBreaths> blown = () -> {
            ThreeBreaths x = Check.told(CAKE);
            x.blow(0);
            return x;
        };
        Refusals.asks(blown, "dazed(), b", ThreeBreaths::dazed, 2);
        // Three trick ones, told as the first, the sixth, the tenth.
        StringBuilder ten = new StringBuilder("cake near 0 wax 1;place o at 0,0;person p reach 1 spread 0");
        for (int i = 0; i < 10; i++) {
            ten.append(";candle c").append((char) ('a' + i)).append(i == 0 || i == 5 || i == 9 ? " at 1,0 trick" : " at 0,1 again");
        }
        ThreeBreaths x = Check.told(ten.toString());
        x.blow(0);
        Check.due(x, "dazed(), three of ten", x.dazed(), 1 + 32 + 512, 0);
        Check.due(x, "burning(), all of ten", x.burning(), 1023, 0);
    }

    @Says("NONE: 1 (no CAKE).")
    static void promise14_noCake() {
        Refusals.refused(Refusals::none, "dazed()", ThreeBreaths::dazed, -1, 1);
    }

    // ---- 15

    @Says("How many fewer would burn behind a BREATH")
    static void promise15_gain() {
        Refusals.asks(() -> Check.told(CAKE), "gain(0), a", x -> x.gain(0), 1);
        Refusals.asks(() -> Check.told(CAKE), "gain(4), c and d", x -> x.gain(4), 2);
        Refusals.asks(() -> Check.told(CAKE), "gain(8), none", x -> x.gain(8), 0);
        Refusals.asks(() -> Refusals.used(CAKE), "gain(0), not dazed any more", x -> x.gain(0), 0);
        ThreeBreaths x = Check.told(CAKE);
        x.blow(0);
        Check.due(x, "gain(0), b is dazed", x.gain(0), 1, 0);
        StringBuilder ten = new StringBuilder("cake near 0 wax 1;place o at 0,0;person p reach 1 spread 0");
        for (int i = 0; i < 10; i++) {
            ten.append(";candle c").append((char) ('a' + i)).append(" at 1,0 plain");
        }
        Check.due("gain(0), all ten", Check.told(ten.toString()).gain(0), 10);
    }

    @Says("(below 0: more)")
    static void promise15_belowZeroMore() {
        // All go out by way 0; lit alone, a lights nine again ones behind any other breath.
        StringBuilder ten = new StringBuilder("cake near 9 wax 1;candle a at 5,0 plain;place o at 0,0;person p reach 9 spread 0");
        for (int i = 0; i < 9; i++) {
            ten.append(";candle c").append((char) ('a' + i)).append(" at ").append(i + 1).append(",0 again");
        }
        Supplier<ThreeBreaths> lit = () -> {
            ThreeBreaths x = Check.told(ten.toString());
            x.blow(0);
            x.light(0);
            return x;
        };
        Refusals.asks(lit, "gain(4), nine more", x -> x.gain(4), -9);
        Refusals.asks(lit, "gain(0), a", x -> x.gain(0), 1);
    }

    @Says("-100: 1.")
    static void promise15_noSuchBreath() {
        Refusals.bounds(Refusals::none, 0, -1, "gain", ThreeBreaths::gain, -100, 1);
        Refusals.bounds(Refusals::small, 0, 15, "gain", ThreeBreaths::gain, -100, 1);
        Refusals.bounds(Refusals::full, 0, 319, "gain", ThreeBreaths::gain, -100, 1);
    }

    // ---- 16

    @Says("The BREATH of greatest gain")
    static void promise16_greedy() {
        Refusals.asks(() -> Check.told(CAKE), "greedy()", ThreeBreaths::greedy, 4);
        ThreeBreaths x = Check.told(CAKE);
        x.blow(4);
        Check.due(x, "greedy() then", x.greedy(), 0, 0);
        // The last of all breaths.
        String last = "cake near 0 wax 3;candle a at 9,8 plain;place o at 0,0;place m at 7,9;person p reach 1 spread 0;person q reach 3 spread 0";
        Refusals.asks(() -> Check.told(last), "greedy(), the last one", ThreeBreaths::greedy, 63);
    }

    @Says("the first such")
    static void promise16_theFirstSuch() {
        String like = "cake near 0 wax 3;candle a at 0,5 plain;candle b at 5,0 plain;candle c at 4,4 plain;place o at 0,0;place m at 0,0;"
            + "person q reach 1 spread 0;person p reach 9 spread 0;person r reach 9 spread 0";
        Refusals.asks(() -> Check.told(like), "greedy(), of like ones", ThreeBreaths::greedy, 32);
        // None burns: every breath gains 0.
        Refusals.asks(() -> Refusals.small(), "greedy(), none burns", ThreeBreaths::greedy, 0);
        // Every breath gains less than 0: a lights b behind each.
        Supplier<ThreeBreaths> below = () -> {
            ThreeBreaths x = Check.told("cake near 1 wax 9;candle a at 1,0 trick;candle b at 2,0 again;place o at 0,0;person p reach 3 spread 0");
            x.blow(0);
            x.blow(0);
            x.light(0);
            return x;
        };
        Refusals.asks(below, "gain(0), below 0", x -> x.gain(0), -1);
        Refusals.asks(below, "gain(15), below 0", x -> x.gain(15), -1);
        Refusals.asks(below, "greedy(), all below 0", ThreeBreaths::greedy, 0);
    }

    @Says("The BREATH of greatest gain, the first such.")
    static void promise16_whereTheFirstOnesAreWorst() {
        // Way 7 of o has b, way 4 of o just c, way 4 of m a and c; a lights c behind every breath that doesn't put it out.
        ThreeBreaths x = Check.told("cake near 1 wax 9;candle a at 5,9 plain;candle b at 3,6 plain;candle c at 5,8 again;"
            + "place o at 5,5;place m at 5,7;person p reach 3 spread 0");
        Check.due("c alone, lit again", x.gain(x.breath(0, 0, 4)), 0);
        Check.due("a and c", x.gain(x.breath(0, 1, 4)), 2);
        Check.due("greedy()", x.greedy(), x.breath(0, 1, 4));
        x.blow(x.greedy());
        state(x, "a and c out", 2, 0);
        x.light(0);
        Check.due("gain(0) lights c", x.gain(0), -1);
        Check.due("b out, c lit", x.gain(x.breath(0, 0, 7)), 0);
        Check.due("greedy() of a, b", x.greedy(), x.breath(0, 1, 4));
    }

    @Says("NONE: 1 (no CAKE).")
    static void promise16_noCake() {
        Refusals.refused(Refusals::none, "greedy()", ThreeBreaths::greedy, -1, 1);
    }

    // ---- 17

    @Says("BLOW: how many burn then.")
    static void promise17_blow() {
        ThreeBreaths x = Check.told(CAKE);
        x.fan(-1);
        Check.due(x, "blow(0)", x.blow(0), 3, 0);
        state(x, "behind way 0", 14, 2);
        Check.due("acts", x.size(8), 1);
        Check.due(x, "blow(0)", x.blow(0), 2, 0);
        state(x, "behind way 0 twice", 12, 0);
        Check.due(x, "blow(15), which hits none", x.blow(15), 2, 0);
        Check.due("acts, one that changed nothing, too", x.size(8), 3);
        Check.due(x, "blow(4)", x.blow(4), 0, 0);
        Check.due(x, "blow(4), none burns", x.blow(4), 0, 0);
        Check.due("acts", x.size(8), 5);
        x = Refusals.full();
        Check.due(x, "blow(319)", x.blow(319) >= 0, true, 0);
    }

    @Says("NONE: 1.")
    static void promise17_noSuchBreath() {
        Refusals.bounds(Refusals::none, 0, -1, "blow", ThreeBreaths::blow, -1, 1);
        Refusals.bounds(Refusals::small, 0, 15, "blow", ThreeBreaths::blow, -1, 1);
        Refusals.bounds(Refusals::full, 0, 319, "blow", ThreeBreaths::blow, -1, 1);
    }

    // ---- 18

    private static long lit(ThreeBreaths x, int c) {
        return x.light(c) ? 1 : 0;
    }

    @Says("LIGHT: true")
    static void promise18_light() {
        ThreeBreaths x = Check.told(CAKE);
        x.blow(4);
        x.fan(-1);
        Check.due(x, "light(3)", x.light(3), true, 0);
        state(x, "d lit, and by it nothing else", 11, 0);
        Check.due("acts", x.size(8), 2);
        Check.due(x, "light(2)", x.light(2), true, 0);
        state(x, "c lit", 15, 0);
        // Every one of ten.
        StringBuilder ten = new StringBuilder("cake near 9 wax 1;place o at 0,0;person p reach 1 spread 0");
        for (int i = 0; i < 10; i++) {
            ten.append(";candle c").append((char) ('a' + i)).append(" at 1,0 again");
        }
        for (int c = 0; c < 10; c++) {
            x = Check.told(ten.toString());
            x.blow(0);
            Check.due(x, "light(" + c + ")", x.light(c), true, 0);
            state(x, "one of ten", 1 << c, 0);
        }
    }

    @Says("LIGHT (a candle that is out)")
    static void promise18_litItIsNotDazedAndOthersStayDazed() {
        ThreeBreaths x = Check.told(CAKE);
        x.blow(0);
        x.light(0);
        state(x, "a lit, b dazed still", 15, 2);
        x.blow(0);
        state(x, "b out", 12, 0);
        x.light(1);
        state(x, "b lit, not dazed", 14, 0);
        Check.due("b holds out anew", x.blow(0), 3);
    }

    @Says("false: 1; 5 (it burns).")
    static void promise18_refused() {
        Refusals.bounds(Refusals::none, 0, -1, "light", Promise13To20Test::lit, 0, 1);
        Refusals.bounds(Refusals::small, 0, 0, "light", Promise13To20Test::lit, 0, 1);
        Supplier<ThreeBreaths> out = () -> {
            ThreeBreaths x = Check.told(CAKE);
            x.blow(4);
            x.blow(0);
            x.blow(0);
            return x;
        };
        Refusals.bounds(out, 0, 3, "light", Promise13To20Test::lit, 0, 1);
        for (int c = 0; c < 4; c++) {
            int candle = c;
            Refusals.refused(() -> Check.told(CAKE), "light(" + c + ") that burns", x -> lit(x, candle), 0, 5);
        }
        // Dazed it burns.
        Refusals.refused(() -> {
            ThreeBreaths x = Check.told(CAKE);
            x.blow(0);
            return x;
        }, "light(1) that is dazed", x -> lit(x, 1), 0, 5);
    }

    // ---- 19

    @Says("ALL (all burn, none DAZED)")
    static void promise19_all() {
        ThreeBreaths x = Check.told(CAKE);
        x.blow(0);
        x.fan(-1);
        Check.due(x, "all()", x.all(), true, 0);
        state(x, "all", 15, 0);
        Check.due("acts", x.size(8), 2);
        Check.due(x, "all() once more", x.all(), true, 0);
        state(x, "all", 15, 0);
        Check.due("acts, one that changed nothing, too", x.size(8), 3);
        x.undo();
        x.undo();
        state(x, "all() undone", 14, 2);
    }

    @Says("false: 1 (no CAKE).")
    static void promise19_noCake() {
        Refusals.refused(Refusals::none, "all()", x -> x.all() ? 1 : 0, 0, 1);
    }

    // ---- 20

    @Says("UNDO: true")
    static void promise20_undo() {
        ThreeBreaths x = Check.told(CAKE);
        x.blow(0);
        x.blow(4);
        x.light(2);
        x.all();
        x.fan(-1);
        Check.due(x, "undo() all", x.undo(), true, 0);
        state(x, "all undone", 6, 0);
        Check.due("acts", x.size(8), 3);
        Check.due(x, "undo() light", x.undo(), true, 0);
        state(x, "light undone", 2, 0);
        Check.due(x, "undo() blow", x.undo(), true, 0);
        state(x, "the daze is back", 14, 2);
        Check.due("b, dazed, goes out", x.gain(0), 1);
        Check.due(x, "undo() blow", x.undo(), true, 0);
        state(x, "at first", 15, 0);
        Check.due("acts", x.size(8), 0);
        Check.due(x, "undo() of nothing", x.undo(), false, 6);
        x.blow(4);
        x.undo();
        x.blow(0);
        Check.due("an act behind one undone: acts", x.size(8), 1);
        Check.due(x, "undo() it", x.undo(), true, 0);
        state(x, "at first again", 15, 0);
    }

    @Says("false: 6.")
    static void promise20_nothingToUndo() {
        Refusals.refused(Refusals::none, "undo()", x -> x.undo() ? 1 : 0, 0, 6);
        Refusals.refused(() -> Check.told(CAKE), "undo()", x -> x.undo() ? 1 : 0, 0, 6);
        Refusals.refused(() -> {
            ThreeBreaths x = Refusals.used(CAKE);
            x.undo();
            x.undo();
            return x;
        }, "undo()", x -> x.undo() ? 1 : 0, 0, 6);
        Refusals.refused(() -> {
            ThreeBreaths x = Refusals.used(CAKE);
            x.back(0);
            return x;
        }, "undo() behind back", x -> x.undo() ? 1 : 0, 0, 6);
    }
}
