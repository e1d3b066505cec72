/** Term IV: trouble, of the latest call that may be refused; and how long an object is used. */
public final class Term4Test {
    private interface Call {
        void on(ThreeBreaths x);
    }

    public static void main(String[] args) {
        Sentences.run(Term4Test.class);
    }

    private static ThreeBreaths full() {
        ThreeBreaths x = Check.told(Refusals.FULL);
        x.blow(x.greedy());
        return x;
    }

    /** Behind a call refused by 1, by 2 and by 6. */
    private static void due(String name, Call call, int want) {
        for (int before = 0; before < 3; before++) {
            ThreeBreaths x = full();
            trouble(x, before);
            call.on(x);
            Check.due("trouble() behind " + name, x.trouble(), want);
            Check.due("trouble() once more behind " + name, x.trouble(), want);
        }
    }

    private static void trouble(ThreeBreaths x, int which) {
        if (which == 0) {
            x.fan(-1);
        } else if (which == 1) {
            x.few(-1);
        } else {
            x.undo();
            x.undo();
        }
    }

    private static int led(ThreeBreaths x) {
        for (int c = 0; c < 10; c++) {
            if ((x.burning() >> c & 1) == 0) {
                return c;
            }
        }
        return -1;
    }

    @Says("0 it wasn't;")
    static void term4_0itWasnt() {
        due("candle", x -> x.candle(9, 2), 0);
        due("fan", x -> x.fan(319), 0);
        due("breath", x -> x.breath(3, 4, 15), 0);
        due("breathOf", x -> x.breathOf(319, 2), 0);
        due("fans", ThreeBreaths::fans, 0);
        due("spared", ThreeBreaths::spared, 0);
        due("lights", x -> x.lights(9, false), 0);
        due("lights it", x -> x.lights(9, true), 0);
        due("burning", ThreeBreaths::burning, 0);
        due("dazed", ThreeBreaths::dazed, 0);
        due("gain", x -> x.gain(319), 0);
        due("greedy", ThreeBreaths::greedy, 0);
        due("blow", x -> x.blow(319), 0);
        due("all", ThreeBreaths::all, 0);
        due("fewest", ThreeBreaths::fewest, 0);
        due("row", x -> x.row(0), 0);
        due("from", x -> x.from(4), 0);
        due("by", x -> x.by(3), 0);
        due("inTime", ThreeBreaths::inTime, 0);
        due("walk", x -> x.walk(3, 4), 0);
        due("each", ThreeBreaths::each, 0);
        due("team", ThreeBreaths::team, 0);
        due("greedyEnd", ThreeBreaths::greedyEnd, 0);
        due("soonest", x -> x.soonest(9), 0);
        due("few", x -> x.few(9), 0);
        due("chance", x -> x.chance(3, false), 0);
        due("best", x -> x.best(3), 0);
        due("content", x -> x.content(3, true), 0);
        due("fits", x -> x.fits(2), 0);
        due("fitAt", x -> x.fitAt(2, 0), 0);
        due("more", x -> x.more(3), 0);
        due("less", x -> x.less(2, 3), 0);
        due("image", ThreeBreaths::image, 0);
        due("cake", x -> Check.cake(x, Refusals.SMALL), 0);
    }

    @Says("0 it wasn't;")
    static void term4_0ofActsGoneBackOrUndone() {
        ThreeBreaths x = full();
        x.fan(-1);
        x.undo();
        Check.due("trouble() behind undo", x.trouble(), 0);
        x.blow(x.greedy());
        int out = led(x);
        Check.due("one is out", out >= 0, true);
        x.fan(-1);
        x.light(out);
        Check.due("trouble() behind light", x.trouble(), 0);
        x.image();
        x.fan(-1);
        x.back(0);
        Check.due("trouble() behind back", x.trouble(), 0);
    }

    @Says("1 there is none such;")
    static void term4_1thereIsNoneSuch() {
        due("candle", x -> x.candle(10, 0), 1);
        due("fan", x -> x.fan(320), 1);
        due("breath", x -> x.breath(4, 0, 0), 1);
        due("breathOf", x -> x.breathOf(320, 0), 1);
        due("lights", x -> x.lights(10, false), 1);
        due("gain", x -> x.gain(320), 1);
        due("blow", x -> x.blow(320), 1);
        due("light", x -> x.light(10), 1);
        due("row", x -> x.row(-1), 1);
        due("from", x -> x.from(5), 1);
        due("by", x -> x.by(4), 1);
        due("walk", x -> x.walk(0, 5), 1);
        due("soonest", x -> x.soonest(10), 1);
        due("fitAt", x -> x.fitAt(2, 102400), 1);
        due("more", x -> x.more(4), 1);
        due("less", x -> x.less(0, 10), 1);
        due("back", x -> x.back(0), 1);
    }

    @Says("2 a number;")
    static void term4_2aNumber() {
        due("cake", x -> x.cake(1), 2);
        due("few", x -> x.few(10), 2);
        due("chance", x -> x.chance(4, false), 2);
        due("best", x -> x.best(4), 2);
        due("content", x -> x.content(4, false), 2);
        due("fits", x -> x.fits(3), 2);
        due("fitAt", x -> x.fitAt(3, 0), 2);
    }

    @Says("3 no room;")
    static void term4_3noRoom() {
        due("image", x -> {
            x.image();
            x.image();
            x.image();
            x.image();
        }, 3);
    }

    @Says("4 a FAULT;")
    static void term4_4aFault() {
        String[] faulty = {"!", "left x", "shaky 1,1,1;shaky", "shaky 0,0,0", "spot a at 1,1;spot b at 1,1;spot c at 1,1;spot d at 1,1;spot", "left none"};
        for (int fault = 1; fault <= 6; fault++) {
            String text = faulty[fault - 1];
            due("a cake with fault " + fault, x -> Check.cake(x, text), 4);
            ThreeBreaths x = new ThreeBreaths();
            Check.cake(x, text);
            Check.due("fault()", x.fault(), fault);
        }
    }

    @Says("5 not so;")
    static void term4_5notSo() {
        due("light", x -> {
            x.all();
            x.light(0);
        }, 5);
    }

    @Says("6 there is none.")
    static void term4_6thereIsNone() {
        due("undo", x -> {
            x.undo();
            x.undo();
        }, 6);
        // The candle is out of every fan, and nothing is told as left.
        String spared = "cake near 2 wax 3;candle a at 9,9 plain;place o at 0,0;person p reach 3 spread 1";
        ThreeBreaths x = Check.told(spared);
        x.row(0);
        Check.due("trouble() behind row", x.trouble(), 6);
        x.burning();
        x.fits(1);
        Check.due("trouble() behind fits", x.trouble(), 6);
        x.burning();
        x.fitAt(1, 0);
        Check.due("trouble() behind fitAt", x.trouble(), 6);
    }

    @Says("TROUBLE of the latest call that may be refused (those of which a number is told here)")
    static void term4_callsWithoutANumberDontCount() {
        Call[] troubles = {x -> x.burning(), x -> x.fan(-1), x -> x.few(-1), x -> {
            x.image();
            x.image();
            x.image();
            x.image();
        }, x -> Check.cake(x, "!"), x -> {
            x.all();
            x.light(0);
        }, x -> {
            x.undo();
            x.undo();
        }};
        for (int want = 0; want <= 6; want++) {
            ThreeBreaths x = full();
            troubles[want].on(x);
            for (int what = -1; what <= 11; what++) {
                x.size(what);
            }
            x.fault();
            x.where();
            Check.led(x, 0);
            Check.led(x, -1);
            for (int i = 0; i < 46; i++) {
                x.feed(0, 0, 0, 0, 0);
            }
            Check.due("trouble() behind calls without a number", x.trouble(), want);
        }
    }

    @Says("An object is used for at most 512 calls after it has been made")
    static void term4_fiveHundredAndTwelveCalls() {
        ThreeBreaths x = new ThreeBreaths();
        int calls = 0;
        for (int at = 0; at < Refusals.FULL.length(); at += 20) {
            Check.feed(x, Refusals.FULL.substring(at, Math.min(at + 20, Refusals.FULL.length())));
            calls += 2;
        }
        Check.due("cake()", x.cake(Refusals.FULL.length()), 320);
        calls++;
        int first = x.fewest();
        int firstRow = x.row(first - 1);
        long chance = x.chance(3, true);
        int fits = x.fits(2);
        calls += 4;
        // All the dear ones, again and again, each from a moment of its own.
        for (int i = 0; calls + 12 <= 500; i++) {
            x.blow(i * 37 % 320);
            x.row(0);
            x.walk(i % 4, i % 5);
            x.team();
            x.few(9);
            x.chance(3, false);
            x.content(3, false);
            x.best(3);
            x.fitAt(2, i);
            x.more(i % 4);
            x.less(i % 3, i % 4);
            x.image();
            calls += 12;
        }
        x.all();
        Check.due("fewest() as at first", x.fewest(), first);
        Check.due("row() as at first", x.row(first - 1), firstRow);
        Check.due("chance() as at first", x.chance(3, true), chance);
        Check.due("fits() as at first", x.fits(2), fits);
        Check.due("acts", x.size(8), 20);
        for (int i = 0; i < 6; i++) {
            x.undo();
            x.dazed();
        }
        Check.due("burning(), the last calls", x.burning() >= 0, true);
    }
}
