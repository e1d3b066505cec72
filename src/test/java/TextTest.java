/** Promises 1 to 5: a new object, the tape, the text of a cake and its faults. */
public final class TextTest {
    private static final String SMALL = "cake near 2 wax 3;candle a at 1,0 plain;place o at 0,0;person p reach 3 spread 1";

    public static void main(String[] args) {
        newObject();
        tape();
        refusedNumbers();
        cakeStaysBehindFault();
        faultAndWhere();
        forms();
        tokens();
        names();
        twice();
        bounds();
        many();
        lacks();
        order();
        edges();
        Check.end("TextTest");
    }

    private static void newObject() {
        ThreeBreaths x = new ThreeBreaths();
        for (int what = 0; what <= 10; what++) {
            Check.due("new size(" + what + ")", x.size(what), 0);
        }
        Check.due("new trouble()", x.trouble(), 0);
        Check.due("new fault()", x.fault(), 0);
        Check.due("new where()", x.where(), -1);
        Check.due(x, "new burning()", x.burning(), -1, 1);
        Check.due("new led(0)", Check.led(x, 0), -9);
    }

    private static void tape() {
        ThreeBreaths x = new ThreeBreaths();
        for (int i = 1; i <= 45; i++) {
            Check.due("feed " + i, x.feed(0x20202020, 0x20202020, 0x20202020, 0x20202020, 0x20202020), 20 * i);
        }
        Check.due("feed 46", x.feed(1, 2, 3, 4, 5), -1);
        Check.due("size(10) full", x.size(10), 900);
        Check.due(x, "cake(900) of blanks", x.cake(900), -1, 4);
        Check.due("fault() of blanks", x.fault(), 1);
        Check.due("where() of blanks", x.where(), 900);
        Check.due("size(10) behind cake", x.size(10), 0);
        Check.due("feed leaves trouble", x.feed(0, 0, 0, 0, 0), 20);
        Check.due("trouble() behind feed", x.trouble(), 4);
        // The highest byte first: 'c' 'a' 'k' 'e', then a byte that begins no token.
        x = new ThreeBreaths();
        x.feed(0x63616b65, 0x206e6561, 0x72203120, 0xff202020, 0x20202020);
        Check.due(x, "cake with byte 255", x.cake(20), -1, 4);
        Check.due("where() of byte 255", x.where(), 12);
        // All that was fed makes one text; what stands behind its first n bytes is dropped.
        x = new ThreeBreaths();
        Check.feed(x, SMALL + "!!");
        Check.due(x, "cake of the first bytes", x.cake(SMALL.length()), 16, 0);
        Check.due("size(10) behind it", x.size(10), 0);
    }

    private static void refusedNumbers() {
        ThreeBreaths x = new ThreeBreaths();
        Check.due(x, "cake(1), empty tape", x.cake(1), -1, 2);
        Check.due("fault() behind cake refused by 2", x.fault(), 0);
        Check.feed(x, "cake");
        Check.due(x, "cake(21)", x.cake(21), -1, 2);
        Check.due(x, "cake(-1)", x.cake(-1), -1, 2);
        Check.due(x, "cake(least)", x.cake(Integer.MIN_VALUE), -1, 2);
        Check.due(x, "cake(most)", x.cake(Integer.MAX_VALUE), -1, 2);
        Check.due("tape stays", x.size(10), 20);
        Check.due(x, "cake(4)", x.cake(4), -1, 4);
        Check.due("where() of cake", x.where(), 4);
        Check.due(x, "cake(0)", x.cake(0), -1, 4);
        Check.due("fault() of nothing", x.fault(), 1);
        Check.due("where() of nothing", x.where(), 0);
    }

    private static void cakeStaysBehindFault() {
        ThreeBreaths x = Check.told(SMALL + ";left a;spot s at 4,4;shaky 1,0,0");
        x.blow(0);
        x.image();
        Check.due(x, "a faulty cake", Check.cake(x, "cake near 9 wax 9;candle b at 7,7 trick;left none;!"), -1, 4);
        Check.due("candles stay", x.size(0), 1);
        Check.due("near stays", x.size(4), 2);
        Check.due("wax stays", x.size(5), 3);
        Check.due("shaky stays", x.size(6), 1);
        Check.due("left stays", x.size(7), 1);
        Check.due("acts stay", x.size(8), 1);
        Check.due("images stay", x.size(9), 1);
        Check.due("x stays", x.candle(0, 0), 1);
        Check.due("what burns stays", x.burning(), 0);
        Check.due(x, "another cake", Check.cake(x, SMALL), 16, 0);
        Check.due("all burn", x.burning(), 1);
        Check.due("nothing to undo", x.size(8), 0);
        Check.due("no images", x.size(9), 0);
        Check.due("no spots", x.size(2), 0);
        Check.due("no shaky", x.size(6), 0);
        Check.due("no left", x.size(7), -2);
        Check.due(x, "undo()", x.undo(), false, 6);
        Check.due(x, "back(0)", x.back(0), false, 1);
    }

    private static void faultAndWhere() {
        ThreeBreaths x = new ThreeBreaths();
        Check.cake(x, "cake near 21");
        Check.due("where()", x.where(), 10);
        Check.due("fault()", x.fault(), 4);
        x.size(0);
        x.fault();
        x.trouble();
        Check.led(x, 0);
        Check.due("where() behind calls never refused", x.where(), 10);
        x.burning();
        Check.due("where() behind another refused call", x.where(), -1);
        Check.due("fault() behind another refused call", x.fault(), 4);
        x.cake(1);
        Check.due("fault() behind cake refused by 2", x.fault(), 4);
        Check.cake(x, SMALL);
        Check.due("fault() behind a good cake", x.fault(), 0);
        Check.due("where() behind a good cake", x.where(), -1);
    }

    /** Both: the fault and where it is; a text is tried alone and with blanks strewn about. */
    private static void fails(String text, int fault, int where) {
        ThreeBreaths x = new ThreeBreaths();
        Check.due(x, "cake \"" + text + "\"", Check.cake(x, text), -1, 4);
        Check.due("fault() of \"" + text + "\"", x.fault(), fault);
        Check.due("where() of \"" + text + "\"", x.where(), where);
        x = new ThreeBreaths();
        Check.due(x, "cake \"  " + text + "\"", Check.cake(x, "  " + text), -1, 4);
        Check.due("fault() of \"  " + text + "\"", x.fault(), fault);
        Check.due("where() of \"  " + text + "\"", x.where(), where + 2);
    }

    private static void holds(String text) {
        ThreeBreaths x = new ThreeBreaths();
        Check.due("cake \"" + text + "\" holds", Check.cake(x, text) > 0, true);
        Check.due("fault() of \"" + text + "\"", x.fault(), 0);
        Check.due("trouble() of \"" + text + "\"", x.trouble(), 0);
    }

    private static void forms() {
        fails("", 1, 0);
        fails(";", 1, 0);
        fails("cakes", 1, 0);
        fails("none", 1, 0);
        fails("near 1", 1, 0);
        fails("7", 1, 0);
        fails("cake near 1 wax 1;", 1, 18);
        fails("cake near 1 wax 1;;", 1, 18);
        fails("cake near 1 wax 1,", 1, 17);
        fails("cake near 1 wax 1 candle", 1, 18);
        fails("cake wax 1", 1, 5);
        fails("cake near wax", 1, 10);
        fails("cake near 1,2", 1, 11);
        fails("candle at at 1", 1, 14);
        fails("candle a b", 1, 9);
        fails("candle 1", 1, 7);
        fails("candle a at 1,1", 1, 15);
        fails("candle a at 1,1;", 1, 15);
        fails("candle a at 1,1 plain tall", 1, 22);
        fails("candle a at 1;1", 1, 13);
        fails("place p at 1,1 plain", 1, 15);
        fails("spot p at 1", 1, 11);
        fails("person p spread", 1, 9);
        fails("person p reach 5 reach", 1, 17);
        fails("person p reach 5", 1, 16);
        fails("shaky 1 1", 1, 8);
        fails("shaky 1,1,1,1", 1, 11);
        fails("shaky one", 1, 6);
        fails("left", 1, 4);
        fails("left ,", 1, 5);
        fails("left cake", 1, 5);
        fails("left none none", 1, 10);
        fails("candle a at 1,1 plain;left a,", 1, 29);
        fails("candle a at 1,1 plain;left a,none", 1, 29);
        fails("candle a at 1,1 plain;left a a", 1, 29);
    }

    private static void tokens() {
        holds(SMALL);
        holds("cakenear2wax3".replace("cakenear", "cake near").replace("wax", " wax ") + SMALL.substring(17));
        holds("  cake  near 002 wax3 ;candle abcdefgh at1 , 0plain;place o at0,0;person p reach30spread 030   ");
        fails("cakenear 1", 1, 0);
        fails("caken", 1, 0);
        fails("abcdefghi", 1, 0);
        fails("candle abcdefghi at 1,1 plain", 1, 7);
        fails("candle abcdefgh at 1,1 big", 1, 23);
        fails("cake near 0001 wax", 1, 10);
        fails("cake near 1000", 1, 10);
        fails("cake near 999", 4, 10);
        fails("cake near -1", 1, 10);
        fails("cake Near", 1, 5);
        fails("cake\tnear", 1, 4);
        fails("cake\nnear", 1, 4);
        fails("cake near 1 wax 1.", 1, 17);
        fails("cake near 1 wax 1\u00ff", 1, 17);
        fails("cake near 1 wax 1\u0000", 1, 17);
        fails("candle a{", 1, 8);
        fails("candle a`", 1, 8);
        fails("cake near 1:", 1, 11);
        fails("cake near 1/", 1, 11);
    }

    private static void names() {
        for (String word : "cake candle place spot person shaky left none".split(" ")) {
            fails("candle " + word, 1, 7);
            fails("place " + word, 1, 6);
            fails("spot " + word, 1, 5);
            fails("person " + word, 1, 7);
        }
        holds("cake near 2 wax 3;candle at at 1,0 plain;place near at 0,0;person wax reach 3 spread 1;spot plain at 1,1;left at");
        holds("cake near 2 wax 3;candle reach at 1,0 plain;candle again at 2,2 again;place spread at 0,0;"
            + "person trick reach 3 spread 1;left again,reach");
        fails("left a", 2, 5);
        fails("left a;candle a at 1,1 plain", 2, 5);
        fails("candle a at 1,1 plain;left aa", 2, 27);
        fails("candle aa at 1,1 plain;left a", 2, 28);
        fails("place a at 1,1;left a", 2, 20);
        fails("spot a at 1,1;left a", 2, 19);
        fails("person a reach 1 spread 1;left a", 2, 31);
        fails("candle b at 1,1 plain;place a at 1,1;left b,a", 2, 44);
    }

    private static void twice() {
        fails("cake near 1 wax 1;cake", 3, 18);
        fails("cake near 1 wax 1;cake near 99", 3, 18);
        fails("shaky 1,1,1;shaky 1,1,1", 3, 12);
        fails("left none;left none", 3, 10);
        fails("candle a at 1,1 plain;left a;left a", 3, 29);
        fails("candle a at 1,1 plain;left a,a", 3, 29);
        fails("candle a at 1,1 plain;candle b at 1,1 plain;left a,b,a", 3, 53);
        String[] lines = {"candle a at 1,1 plain;", "place a at 1,1;", "spot a at 1,1;", "person a reach 1 spread 1;"};
        String[] again = {"candle a", "place a", "spot a", "person a"};
        for (String line : lines) {
            for (String second : again) {
                fails(line + second, 3, line.length() + second.length() - 1);
            }
        }
    }

    private static void bounds() {
        fails("cake near 21 wax 1", 4, 10);
        fails("cake near 20 wax 0", 4, 17);
        fails("cake near 20 wax 10", 4, 17);
        fails("candle a at 21,1", 4, 12);
        fails("candle a at 1,21 x", 4, 14);
        fails("place a at 21,1", 4, 11);
        fails("place a at 1,21", 4, 13);
        fails("spot a at 21,1", 4, 10);
        fails("spot a at 1,21", 4, 12);
        fails("person a reach 0", 4, 15);
        fails("person a reach 31", 4, 15);
        fails("person a reach 30 spread 31", 4, 25);
        fails("shaky 10,1,1", 4, 6);
        fails("shaky 1,10,1", 4, 8);
        fails("shaky 1,1,10", 4, 10);
        fails("shaky 0,0,0", 4, 10);
        fails("shaky 0,0,000;;", 4, 10);
        fails("shaky 0,0,10", 4, 10);
        fails("shaky 0,0", 1, 9);
        holds("cake near 0 wax 9;candle a at 20,20 tall;place b at 20,20;spot c at 20,20;person d reach 1 spread 0;shaky 0,0,1");
        holds("cake near 20 wax 1;candle a at 0,0 tall;place b at 0,0;spot c at 0,0;person d reach 30 spread 30;shaky 9,9,9");
        holds(SMALL + ";shaky 9,0,0");
        holds(SMALL + ";shaky 0,9,0");
    }

    private static String lines(String line, int count) {
        StringBuilder text = new StringBuilder();
        for (int i = 0; i < count; i++) {
            text.append(line.replace("*", String.valueOf((char) ('a' + i)) + line.charAt(0))).append(';');
        }
        return text.toString();
    }

    private static void many() {
        String candles = lines("candle * at 1,1 plain", 10);
        fails(candles + "candle", 5, candles.length());
        fails(candles + "candle cake", 5, candles.length());
        String places = lines("place * at 1,1", 5);
        fails(places + "place", 5, places.length());
        String spots = lines("spot * at 1,1", 4);
        fails(spots + "spot", 5, spots.length());
        String people = lines("person * reach 1 spread 1", 4);
        fails(people + "person", 5, people.length());
        String tricks = lines("candle * at 1,1 trick", 3);
        fails(tricks + "candle x at 1,1 trick", 5, tricks.length() + 16);
        fails(tricks + "candle x at 1,1 plain;candle y at 1,1 trick", 5, tricks.length() + 38);
        holds(candles + places + spots.replace("s at", "z at") + people.replace("p reach", "y reach") + "cake near 1 wax 1");
        holds(tricks + lines("candle * at 2,2 again", 7).replace("c at", "d at") + "place p at 0,0;person q reach 1 spread 1;cake near 1 wax 1");
    }

    private static void lacks() {
        String[] lines = {"cake near 1 wax 1", "candle a at 1,1 plain", "place b at 1,1", "person c reach 1 spread 1"};
        for (int without = 0; without < 4; without++) {
            StringBuilder text = new StringBuilder();
            for (int i = 0; i < 4; i++) {
                if (i != without) {
                    text.append(text.length() == 0 ? "" : ";").append(lines[i]);
                }
            }
            fails(text.toString(), 6, text.length());
            fails(text + "  ", 6, text.length() + 2);
            fails(text + ";", 1, text.length() + 1);
        }
        fails("left none", 6, 9);
        holds("person c reach 1 spread 1;place b at 1,1;candle a at 1,1 plain;cake near 1 wax 1");
    }

    /** What stands further left comes first, whatever its number. */
    private static void order() {
        fails("cake near 21 wax !", 4, 10);
        fails("candle a at 1,1 plain;candle a at 99,!", 3, 29);
        fails("left b !", 2, 5);
        fails("left b123456789", 2, 5);
        fails("shaky 0,0,0 !", 4, 10);
        fails("cake near 1 wax 1;cake!", 3, 18);
    }

    private static void edges() {
        ThreeBreaths x = new ThreeBreaths();
        String text = SMALL + " ".repeat(900 - SMALL.length());
        Check.due(x, "a text of 900 bytes", Check.cake(x, text), 16, 0);
        text = " ".repeat(900 - SMALL.length()) + SMALL;
        Check.due(x, "a text of 900 bytes, blanks ahead", Check.cake(x, text), 16, 0);
        Check.feed(x, " ".repeat(880));
        Check.due("feed up to 900", x.feed(0, 0, 0, 0, 0), 900);
        Check.due("feed beyond", x.feed(0, 0, 0, 0, 0), -1);
        Check.due("trouble() behind feed refused", x.trouble(), 0);
    }
}
