import java.util.function.Supplier;

/** Promises 1 to 5: a new object, the tape, the cake, its fault, and where that is. */
public final class Promise1To5Test {
    private static final int BLANKS = 0x20202020;
    private static final String OTHER = "cake near 9 wax 4;candle z at 5,5 tall;candle y at 6,6 plain;place w at 5,5;place v at 0,0;"
        + "person u reach 9 spread 9;spot t at 1,1;shaky 1,2,3;left y";

    public static void main(String[] args) {
        Sentences.run(Promise1To5Test.class);
    }

    private static int feedBlanks(ThreeBreaths x) {
        return x.feed(BLANKS, BLANKS, BLANKS, BLANKS, BLANKS);
    }

    private static ThreeBreaths fed(int bytes) {
        ThreeBreaths x = new ThreeBreaths();
        for (int i = 0; i < bytes; i += 20) {
            feedBlanks(x);
        }
        return x;
    }

    // ---- 1

    @Says("No CAKE.")
    static void promise01_aNewObjectHasNoCake() {
        ThreeBreaths x = new ThreeBreaths();
        Check.due("trouble()", x.trouble(), 0);
        Check.due("fault()", x.fault(), 0);
        Check.due("where()", x.where(), -1);
        for (int what = 0; what <= 10; what++) {
            Check.due("size(" + what + ")", x.size(what), 0);
        }
        Check.due("led(0)", Check.led(x, 0), -9);
        Check.due(x, "burning()", x.burning(), -1, 1);
        Check.due(x, "all()", x.all(), false, 1);
        Check.due(x, "undo()", x.undo(), false, 6);
        Check.due(x, "back(0)", x.back(0), false, 1);
        Check.due(x, "image()", x.image(), -1, 1);
    }

    @Says("No CAKE.")
    static void promise01_eachObjectHasItsOwn() {
        ThreeBreaths x = new ThreeBreaths();
        ThreeBreaths y = Refusals.full();
        Check.due(x, "burning() beside another", x.burning(), -1, 1);
        Check.due("size(10) beside another", x.size(10), 0);
        ThreeBreaths z = Check.told(Refusals.SMALL);
        Check.due("fewest() of one", z.fewest(), 1);
        Check.due("candles of the other", y.size(0), 10);
        Check.due("acts of the other", y.size(8), 2);
        Check.due("acts of one", z.size(8), 0);
    }

    // ---- 2

    @Says("Twenty bytes come behind THE TAPE, of each number the highest first")
    static void promise02_ofEachNumberTheHighestByteFirst() {
        for (int at = 0; at < 20; at++) {
            int[] five = {BLANKS, BLANKS, BLANKS, BLANKS, BLANKS};
            int shift = 24 - at % 4 * 8;
            five[at / 4] = BLANKS & ~(255 << shift) | '!' << shift;
            ThreeBreaths x = new ThreeBreaths();
            feedBlanks(x);
            Check.due("40 bytes", x.feed(five[0], five[1], five[2], five[3], five[4]), 40);
            Check.due(x, "cake(40) with ! as byte " + at, x.cake(40), -1, 4);
            Check.due("where() with ! as byte " + at, x.where(), 20 + at);
        }
        // Bytes from 128 on, in numbers below 0, are bytes like others.
        ThreeBreaths x = new ThreeBreaths();
        x.feed(0x6c656674, 0x206e6f6e, 0x65ff2020, BLANKS, BLANKS);
        Check.due(x, "left none, 255", x.cake(20), -1, 4);
        Check.due("where() of 255", x.where(), 9);
        x.feed(0x6c656674, 0x206e6f6e, 0x65202020, 0x80000000, 0x80808080);
        Check.due(x, "left none, 128", x.cake(20), -1, 4);
        Check.due("where() of 128", x.where(), 12);
    }

    @Says("Twenty bytes come behind THE TAPE")
    static void promise02_bytesComeBehindTheTape() {
        String text = Refusals.SMALL + "    ";
        ThreeBreaths x = new ThreeBreaths();
        Check.due("fed in one", Check.feed(x, text.substring(0, 20)), 20);
        for (int at = 20; at + 20 <= text.length(); at += 20) {
            Check.due("fed in parts", Check.feed(x, text.substring(at, at + 20)), at + 20);
        }
        Check.due(x, "the parts together", x.cake(80), 16, 0);
    }

    @Says("how many it has; NONE, and none comes, if there would be more than 900")
    static void promise02_upTo900() {
        ThreeBreaths x = new ThreeBreaths();
        Check.feed(x, "!");
        for (int i = 2; i <= 45; i++) {
            Check.due("feed " + i, feedBlanks(x), 20 * i);
            Check.due("size(10)", x.size(10), 20 * i);
        }
        for (int i = 0; i < 3; i++) {
            Check.due("feed beyond 900", x.feed(0, 0, 0, 0, 0), -1);
            Check.due("size(10) stays", x.size(10), 900);
        }
        Check.due(x, "cake(901)", x.cake(901), -1, 2);
        Check.due(x, "cake(900)", x.cake(900), -1, 4);
        Check.due("the first byte stays", x.where(), 0);
        // What was refused didn't come: the last bytes of the tape are blanks still.
        x = fed(900);
        x.feed(-1, -1, -1, -1, -1);
        Check.due(x, "cake(900) of blanks", x.cake(900), -1, 4);
        Check.due("nothing but blanks", x.where(), 900);
        Check.due("the tape is empty: feed", feedBlanks(x), 20);
    }

    @Says("of the latest call that may be refused (those of which a number is told here)")
    static void promise02_feedHasNoNumberOfTrouble() {
        ThreeBreaths x = fed(900);
        x.undo();
        Check.due("feed refused", feedBlanks(x), -1);
        Check.due("trouble() of the call before", x.trouble(), 6);
        x = Refusals.small();
        String before = Refusals.all(Refusals.small()).replace(" 20 candles", " 40 candles");
        x.fan(-1);
        Check.due("feed", feedBlanks(x), 40);
        Check.due("trouble() of the call before", x.trouble(), 1);
        Check.same("all else stays behind feed", Refusals.all(x), before);
    }

    // ---- 3

    @Says("The first n bytes of THE TAPE (it is empty then) are the CAKE from now on")
    static void promise03_theFirstBytesAlone() {
        for (String behind : new String[] {"!", ";", "0", "9", "a", ";candle", ";cake near 1 wax 1", " "}) {
            ThreeBreaths x = new ThreeBreaths();
            Check.feed(x, Refusals.SMALL + behind);
            Check.due(x, "cake ahead of " + behind, x.cake(Refusals.SMALL.length()), 16, 0);
        }
        // One byte less, or more, is another text.
        ThreeBreaths x = new ThreeBreaths();
        Check.feed(x, Refusals.SMALL + "0");
        Check.due(x, "spread 10", x.cake(Refusals.SMALL.length() + 1), 16, 0);
        Check.feed(x, Refusals.SMALL);
        Check.due(x, "no spread", x.cake(Refusals.SMALL.length() - 1), -1, 4);
        Check.due("its fault()", x.fault(), 1);
        Check.due("its where()", x.where(), Refusals.SMALL.length() - 1);
    }

    @Says("(it is empty then)")
    static void promise03_theTapeIsEmptyThen() {
        ThreeBreaths x = new ThreeBreaths();
        Check.feed(x, Refusals.SMALL + " ".repeat(200) + "!");
        x.cake(Refusals.SMALL.length());
        Check.due("size(10) behind a cake", x.size(10), 0);
        Check.due(x, "cake(1)", x.cake(1), -1, 2);
        Check.due("the first twenty", Check.feed(x, OTHER.substring(0, 20)), 20);
        Check.due("the whole", Check.feed(x, OTHER.substring(20)), (OTHER.length() + 19) / 20 * 20);
        Check.due(x, "what was behind the cake is gone", x.cake(OTHER.length()), 32, 0);
        // Refused by 4 it is empty, too.
        Check.feed(x, "cake ! " + Refusals.SMALL);
        Check.due(x, "a fault", x.cake(7), -1, 4);
        Check.due("size(10) behind a fault", x.size(10), 0);
        Check.due(x, "cake(1) behind a fault", x.cake(1), -1, 2);
        Check.due(x, "the next text", Check.cake(x, Refusals.SMALL), 16, 0);
        x = new ThreeBreaths();
        Check.due(x, "900 bytes", Check.cake(x, " ".repeat(900)), -1, 4);
        Check.due("room for the next", feedBlanks(x), 20);
    }

    @Says("(all burn; nothing to undo, no IMAGES)")
    static void promise03_allIsNewThen() {
        ThreeBreaths x = Check.told("cake near 0 wax 1;candle a at 1,0 trick;candle b at 2,0 plain;place o at 0,0;person p reach 3 spread 0;"
            + "spot s at 1,1;shaky 0,0,1;left b");
        for (int i = 0; i < 3; i++) {
            x.image();
            x.blow(0);
        }
        Check.due("acts", x.size(8), 3);
        Check.due("images", x.size(9), 3);
        Check.due(x, "the next cake", Check.cake(x, "cake near 0 wax 2;candle a at 1,0 trick;candle b at 2,0 plain;candle c at 3,0 plain;"
            + "place o at 0,0;person p reach 3 spread 0"), 16, 0);
        Check.due("burning()", x.burning(), 7);
        Check.due("dazed()", x.dazed(), 0);
        Check.due("acts", x.size(8), 0);
        Check.due("images", x.size(9), 0);
        Check.due(x, "undo()", x.undo(), false, 6);
        Check.due(x, "back(0)", x.back(0), false, 1);
        Check.due("burning() still", x.burning(), 7);
        Check.due("a first image", x.image(), 0);
        // Nothing of the cake before is left.
        int[] sizes = {3, 1, 0, 1, 0, 2, 0, -2, 0, 1, 0};
        for (int what = 0; what < sizes.length; what++) {
            Check.due("size(" + what + ")", x.size(what), sizes[what]);
        }
        Check.due("steady again", x.best(1), 0);
    }

    @Says("all burn; nothing to undo, no IMAGES")
    static void promise03_theSameTextOnceMoreIsNewToo() {
        ThreeBreaths x = Refusals.small();
        Check.due("acts", x.size(8), 2);
        Check.due(x, "the twenty bytes fed before", x.cake(20), -1, 4);
        Check.due(x, "the same cake", Check.cake(x, Refusals.SMALL), 16, 0);
        Check.same("as told first", Refusals.all(x), Refusals.all(Check.told(Refusals.SMALL)));
    }

    // Unlike in all: trick ones and again ones in other places, many fans and few, spots, shaky, left, or none of them.
    private static final String[] CAKES = {Refusals.FULL, Refusals.SMALL,
        "cake near 2 wax 2;candle a at 1,0 plain;candle b at 2,0 plain;candle c at 0,1 plain;candle d at 0,3 plain;place o at 0,0;"
            + "place m at 3,0;person p reach 2 spread 0;left c,d",
        "cake near 3 wax 5;candle a at 1,0 again;candle b at 2,2 plain;candle c at 0,1 tall;candle d at 0,3 trick;place o at 0,0;"
            + "place m at 2,3;person p reach 4 spread 3;person q reach 2 spread 0;spot s at 1,1;spot t at 9,9;shaky 1,2,1",
        "cake near 1 wax 9;candle a at 1,0 plain;candle b at 2,0 trick;candle c at 3,0 again;candle d at 0,2 trick;candle e at 1,2 again;"
            + "place o at 0,0;person p reach 3 spread 9;person q reach 9 spread 0;person r reach 2 spread 4;spot s at 2,2;shaky 0,2,3;left b,d,e",
        "cake near 2 wax 3;candle a at 4,4 trick;candle b at 5,4 trick;candle c at 4,5 trick;candle d at 5,5 again;place o at 3,4;"
            + "place m at 4,3;place n at 6,6;person p reach 3 spread 2;left none"};

    private static ThreeBreaths blown(ThreeBreaths x, int breaths) {
        for (int i = 0; i < breaths; i++) {
            x.blow(i * 4);
        }
        return x;
    }

    @Says("are the CAKE from now on (all burn; nothing to undo, no IMAGES)")
    static void promise03_nothingOfTheCakeBeforeMatters() {
        for (String before : CAKES) {
            for (String text : CAKES) {
                for (int breaths = 0; breaths <= 2; breaths += 2) {
                    ThreeBreaths x = blown(Check.told(before), breaths);
                    Answers.same("ahead of another cake", x, blown(Check.told(before), breaths));
                    Check.cake(x, text);
                    Answers.same("\"" + text + "\" behind \"" + before + "\"", blown(x, breaths), blown(Check.told(text), breaths));
                }
            }
        }
    }

    @Says("are the CAKE from now on")
    static void promise03_askingOneDoesntMatterForAnother() {
        for (String text : CAKES) {
            for (int breaths = 0; breaths <= 3; breaths++) {
                int blown = breaths;
                Answers.inAnyOrder("\"" + text + "\" behind " + breaths, () -> blown(Check.told(text), blown));
            }
        }
    }

    @Says("how many BREATHS there are")
    static void promise03_howManyBreaths() {
        for (int places = 1; places <= 5; places++) {
            for (int people = 1; people <= 4; people++) {
                StringBuilder text = new StringBuilder("cake near 0 wax 3;candle a at 1,0 plain");
                for (int i = 0; i < places; i++) {
                    text.append(";place o").append((char) ('a' + i)).append(" at 4,4");
                }
                for (int i = 0; i < people; i++) {
                    text.append(";person p").append((char) ('a' + i)).append(" reach 1 spread 0");
                }
                ThreeBreaths x = new ThreeBreaths();
                Check.due(x, places + " places, " + people + " people", Check.cake(x, text.toString()), 16 * places * people, 0);
            }
        }
    }

    @Says("NONE: 2 (THE TAPE stays)")
    static void promise03_refusedBy2TheTapeStays() {
        for (int bytes : new int[] {0, 20, 80, 900}) {
            Supplier<ThreeBreaths> made = () -> fed(bytes);
            for (int n : Refusals.outside(0, bytes)) {
                Refusals.refused(made, "cake(" + n + ") of " + bytes, x -> x.cake(n), -1, 2);
            }
        }
        for (int n : Refusals.outside(0, 20)) {
            Refusals.refused(Refusals::small, "cake(" + n + ")", x -> x.cake(n), -1, 2);
            Refusals.refused(Refusals::full, "cake(" + n + ")", x -> x.cake(n), -1, 2);
        }
        ThreeBreaths x = new ThreeBreaths();
        int fed = Check.feed(x, Refusals.SMALL);
        for (int n : Refusals.outside(0, fed)) {
            Check.due(x, "cake(" + n + ")", x.cake(n), -1, 2);
        }
        Check.due(x, "the tape is read all the same", x.cake(Refusals.SMALL.length()), 16, 0);
    }

    @Says("NONE: 2 (THE TAPE stays)")
    static void promise03_allOfTheTapeIsAllowedAndNoneOfIt() {
        ThreeBreaths x = fed(20);
        Check.due(x, "cake(20) of 20", x.cake(20), -1, 4);
        Check.due("where() of 20 blanks", x.where(), 20);
        x = fed(20);
        Check.due(x, "cake(0) of 20", x.cake(0), -1, 4);
        Check.due("fault() of no bytes", x.fault(), 1);
        Check.due("where() of no bytes", x.where(), 0);
        Check.due("size(10) behind no bytes", x.size(10), 0);
        x = new ThreeBreaths();
        Check.due(x, "cake(0) of an empty tape", x.cake(0), -1, 4);
        Check.due("fault() of an empty tape", x.fault(), 1);
        Check.due("where() of an empty tape", x.where(), 0);
    }

    // One text for each FAULT, each telling much of another cake ahead of it.
    private static final String[] FAULTY = {
        OTHER + "^!", OTHER + ",^x", OTHER + ";candle ^z", OTHER + ";place x at ^21,0",
        "spot a at 0,0;spot b at 0,0;spot c at 0,0;spot d at 0,0;^spot", "left none;shaky 1,2,3;cake near 9 wax 9;candle z at 9,9 again^"};
    private static final int[] FAULTS = {1, 2, 3, 4, 5, 6};

    @Says("4 (the CAKE stays)")
    static void promise03_refusedBy4TheCakeStays() {
        for (int i = 0; i < FAULTY.length; i++) {
            int where = FAULTY[i].indexOf('^');
            String text = FAULTY[i].replace("^", "");
            for (String cake : new String[] {Refusals.SMALL, Refusals.FULL}) {
                ThreeBreaths x = Check.told(cake);
                ThreeBreaths y = Check.told(cake);
                for (ThreeBreaths each : new ThreeBreaths[] {x, y}) {
                    each.blow(0);
                    each.image();
                    each.blow(4);
                    each.chance(2, false);
                }
                Check.due(x, "cake \"" + text + "\"", Check.cake(x, text), -1, 4);
                Check.due("fault() of \"" + text + "\"", x.fault(), FAULTS[i]);
                Check.due("where() of \"" + text + "\"", x.where(), where);
                Check.due("chance() behind it", x.chance(2, false), y.chance(2, false));
                Check.due("row() behind it", x.row(0), y.row(0));
                Check.due("from() behind it", x.from(0), y.from(0));
                Check.due("fits() behind it", x.fits(2), y.fits(2));
                Check.same("the cake behind fault " + FAULTS[i], Refusals.all(x), Refusals.all(y));
            }
            ThreeBreaths x = new ThreeBreaths();
            Check.due(x, "a first cake \"" + text + "\"", Check.cake(x, text), -1, 4);
            Check.same("still no cake", Refusals.all(x), Refusals.all(new ThreeBreaths()));
        }
    }

    @Says("4 (the CAKE stays)")
    static void promise03_whatAFaultyTextToldIsForgotten() {
        for (String faulty : FAULTY) {
            ThreeBreaths x = new ThreeBreaths();
            Check.cake(x, faulty.replace("^", ""));
            Check.due(x, "a cake behind it", Check.cake(x, Refusals.SMALL), 16, 0);
            Answers.same("behind \"" + faulty + "\"", x, Check.told(Refusals.SMALL));
        }
        // Three trick ones told, and three more, are three each time, faulty or not.
        ThreeBreaths x = new ThreeBreaths();
        String three = "candle a at 1,0 trick;candle b at 1,1 trick;candle c at 1,2 trick;candle d at 1,3 plain";
        String other = "candle a at 1,0 plain;candle b at 1,1 trick;candle c at 1,2 trick;candle d at 1,3 trick";
        for (String candles : new String[] {three, other, other, three, three, other}) {
            Check.cake(x, candles);
            Check.due("fault() of a text that lacks", x.fault(), 6);
            Check.cake(x, Refusals.SMALL.replace("candle a at 1,0 plain", candles));
            Check.due("fault() of a whole text", x.fault(), 0);
        }
    }

    // ---- 4

    @Says("The FAULT of the latest cake() not refused by 2; 0 without one.")
    static void promise04_faultOfTheLatestCake() {
        ThreeBreaths x = new ThreeBreaths();
        Check.due("fault() ahead of all", x.fault(), 0);
        x.cake(1);
        Check.due("fault() behind a cake refused by 2", x.fault(), 0);
        for (int i = 0; i < FAULTY.length; i++) {
            Check.cake(x, FAULTY[i].replace("^", ""));
            Check.due("fault()", x.fault(), FAULTS[i]);
            x.cake(1);
            Check.due("fault() behind a cake refused by 2", x.fault(), FAULTS[i]);
            x.cake(-1);
            x.burning();
            x.undo();
            feedBlanks(x);
            x.cake(21);
            Check.due("fault() behind other calls", x.fault(), FAULTS[i]);
            Check.due(x, "the twenty blanks", x.cake(20), -1, 4);
            Check.due("fault() of blanks", x.fault(), 1);
        }
        Check.cake(x, Refusals.SMALL);
        Check.due("fault() of a good one", x.fault(), 0);
        x.cake(1);
        Check.due("fault() behind a cake refused by 2", x.fault(), 0);
        Check.cake(x, "left none");
        Check.due("fault() of the next", x.fault(), 6);
    }

    @Says("0 without one.")
    static void promise04_faultDoesntChangeTrouble() {
        ThreeBreaths x = new ThreeBreaths();
        x.undo();
        Check.due("fault()", x.fault(), 0);
        Check.due("trouble() behind fault()", x.trouble(), 6);
    }

    // ---- 5

    @Says("Its place, if the latest call that may be refused was by 4; NONE else.")
    static void promise05_itsPlace() {
        for (int at = 0; at < 900; at += 29) {
            ThreeBreaths x = new ThreeBreaths();
            Check.cake(x, " ".repeat(at) + "!");
            Check.due("where() of the byte " + at, x.where(), at);
        }
        ThreeBreaths x = fed(900);
        x.cake(900);
        Check.due("where() of the end", x.where(), 900);
        Check.due("where() once more", x.where(), 900);
    }

    @Says("if the latest call that may be refused was by 4; NONE else.")
    static void promise05_callsThatCantBeRefusedDontCount() {
        ThreeBreaths x = new ThreeBreaths();
        Check.due("where() ahead of all", x.where(), -1);
        Check.cake(x, "cake near 21");
        x.size(0);
        x.size(99);
        x.fault();
        x.trouble();
        x.where();
        Check.led(x, 0);
        feedBlanks(x);
        Check.due("where() behind them", x.where(), 10);
        for (int i = 0; i < 50; i++) {
            feedBlanks(x);
        }
        Check.due("where() behind a feed refused", x.where(), 10);
        Check.due("trouble()", x.trouble(), 4);
    }

    @Says("NONE else.")
    static void promise05_noneBehindAnyOtherCall() {
        ThreeBreaths x = Check.told(Refusals.SMALL);
        Check.due("where() behind a good cake", x.where(), -1);
        Check.cake(x, "!");
        Check.due("where() of a fault", x.where(), 0);
        x.burning();
        Check.due("where() behind a call not refused", x.where(), -1);
        Check.due("fault() stays", x.fault(), 1);
        int[] behind = new int[6];
        Check.cake(x, "!");
        x.fan(-1);
        behind[0] = x.where();
        Check.cake(x, "!");
        x.cake(1);
        behind[1] = x.where();
        Check.cake(x, "!");
        x.few(10);
        behind[2] = x.where();
        Check.cake(x, "!");
        x.light(0);
        behind[3] = x.where();
        Check.cake(x, "!");
        x.undo();
        behind[4] = x.where();
        x.image();
        x.image();
        x.image();
        Check.cake(x, "!");
        x.image();
        behind[5] = x.where();
        for (int i = 0; i < 6; i++) {
            Check.due("where() behind a call refused by another, " + i, behind[i], -1);
        }
        // A fault that has been gone from is not told again.
        Check.cake(x, Refusals.SMALL);
        Check.due("where() behind a good cake", x.where(), -1);
    }
}
