import java.util.ArrayList;
import java.util.List;
import java.util.regex.Matcher;
import java.util.regex.Pattern;

/** Term I: the text of a cake, its bounds and its faults. In a text that has a fault, ^ marks the fault's place. */
public final class Term1Test {
    private static final String[] BASE = {
        "cake near 2 wax 3", "candle a at 1,0 plain", "place o at 0,0", "person p reach 3 spread 1"};
    private static final String[] RESERVED = {"cake", "candle", "place", "spot", "person", "shaky", "left", "none"};
    private static final String[] FREE = {"near", "wax", "at", "plain", "tall", "again", "trick", "reach", "spread"};
    // One of each LINE, both kinds of left aside.
    private static final String ONE_OF_EACH = "cake near 2 wax 3;candle a at 1,0 plain;candle b at 2,0 trick;place o at 0,0;spot s at 3,3;"
        + "person p reach 3 spread 1;shaky 1,2,3;left b,a";

    public static void main(String[] args) {
        Sentences.run(Term1Test.class);
    }

    /** This line behind what a cake needs besides it. */
    private static String with(String line) {
        StringBuilder text = new StringBuilder();
        for (String other : BASE) {
            if (!other.split(" ")[0].equals(line.split(" ")[0])) {
                text.append(other).append(';');
            }
        }
        return text.append(line).toString();
    }

    /** Lines alike but for the star, which is a name of two letters. */
    private static String lines(String line, int count) {
        StringBuilder text = new StringBuilder();
        for (int i = 0; i < count; i++) {
            text.append(line.replace("*", "" + line.charAt(0) + (char) ('a' + i))).append(';');
        }
        return text.toString();
    }

    private static ThreeBreaths read(String text) {
        ThreeBreaths x = new ThreeBreaths();
        Check.due(x, "cake \"" + text + "\"", Check.cake(x, text) > 0, true, 0);
        return x;
    }

    // ---- the tape, tokens

    @Says("THE TAPE has 900 bytes")
    static void term1_theTapeHas900Bytes() {
        String text = String.join(";", BASE);
        Check.holds(text + " ".repeat(900 - text.length()));
        Check.holds(" ".repeat(900 - text.length()) + text);
        Check.faulty(text + " ".repeat(899 - text.length()) + "!", 1, 899);
        Check.faulty(" ".repeat(900), 1, 900);
        Check.faulty(" ".repeat(899) + ";", 1, 899);
        ThreeBreaths x = new ThreeBreaths();
        Check.due("880 bytes", Check.feed(x, " ".repeat(880)), 880);
        Check.due("900 bytes", x.feed(0, 0, 0, 0, 0), 900);
        Check.due("920 bytes", x.feed(0, 0, 0, 0, 0), -1);
    }

    @Says("blanks, 32, part TOKENS and mean nothing else")
    static void term1_blanksPartTokens() {
        Check.holds("cake near2wax3;candle a at1,0plain;place o at0,0;person p reach3spread1");
        Check.holds("   cake   near   2   wax   3   ;   candle   a   at   1   ,   0   plain   ;   place o at 0 , 0 ;person p reach 3 spread 1   ");
        Check.faulty("^ca ke near 2 wax 3", 1);
        Check.faulty("cake ^ne ar 2 wax 3", 1);
        Check.faulty("cake near 1 ^0 wax 3", 1);
        Check.faulty("candle a ^b at 1,0 plain", 1);
        Check.faulty("^cakenear 2 wax 3", 1);
        Check.faulty("cake near 2 wax 3 ^candle", 1);
        // A name is the same with blanks about it.
        Check.faulty("candle a at 1,0 plain;place   ^a   at 0,0", 3);
    }

    @Says("TOKENS: WORDS of 1 to 8 small letters that stand together, WHOLES of 1 to 3 digits that do, single ones of ; ,")
    static void term1_everyByteBehindAWhole() {
        for (int b = 0; b < 256; b++) {
            String text = "cake near 1 wax 1" + (char) b;
            if (b == ' ') {
                Check.faulty(text, 6, 18);
            } else if (b == ';') {
                Check.faulty(text, 1, 18);
            } else if (b >= '0' && b <= '9') {
                Check.faulty(text, 4, 16);
            } else {
                Check.faulty(text, 1, 17);
            }
        }
    }

    @Says("WORDS of 1 to 8 small letters")
    static void term1_everyByteAsAName() {
        for (int b = 0; b < 256; b++) {
            String text = "cake near 2 wax 3;place o at 0,0;person p reach 3 spread 1;candle " + (char) b + " at 1,0 plain";
            int where = text.indexOf("candle") + 7;
            if (b == 'o' || b == 'p') {
                Check.faulty(text, 3, where);
            } else if (b >= 'a' && b <= 'z') {
                Check.holds(text);
            } else if (b == ' ') {
                // Now "at" is the name, and "at" lacks.
                Check.faulty(text, 1, where + 5);
            } else {
                Check.faulty(text, 1, where);
            }
        }
    }

    @Says("WORDS of 1 to 8 small letters that stand together")
    static void term1_wordsHaveUpTo8Letters() {
        String letters = "zyxwvutsrqponm";
        for (int length = 1; length <= 8; length++) {
            String name = letters.substring(0, length);
            Check.holds(with("candle " + name + " at 1,0 plain;left " + name));
            Check.holds(with("place " + name + " at 1,0"));
            Check.holds(with("spot " + name + " at 1,0"));
            Check.holds(with("person " + name + " reach 3 spread 1"));
        }
        for (int length = 9; length <= letters.length(); length++) {
            String name = letters.substring(0, length);
            Check.faulty(with("candle ^" + name + " at 1,0 plain"), 1);
            Check.faulty(with("place ^" + name + " at 1,0"), 1);
            Check.faulty(with("spot ^" + name + " at 1,0"), 1);
            Check.faulty(with("person ^" + name + " reach 3 spread 1"), 1);
            Check.faulty(with("left ^" + name), 1);
        }
        // Of eight letters each counts, the first and the last, too.
        Check.holds("candle abcdefgh at 1,0 plain;candle bbcdefgh at 1,0 plain;candle abcdefgg at 1,0 plain;place abcdefg at 0,0;"
            + "person bcdefgh reach 3 spread 1;cake near 2 wax 3");
        Check.faulty("candle abcdefgh at 1,0 plain;candle bbcdefgh at 1,0 plain;candle ^abcdefgh", 3);
    }

    @Says("WORDS of 1 to 8 small letters that stand together")
    static void term1_everyLetterOfAWordCounts() {
        String kinds = ";candle c at 1,1 tall;candle d at 1,2 again";
        for (String text : new String[] {ONE_OF_EACH + kinds, ONE_OF_EACH.replace("left b,a", "left none")}) {
            for (int at = 0; at < text.length(); at++) {
                for (char letter : new char[] {'a', 'e', 'q', 'z'}) {
                    if (Character.isLetter(text.charAt(at))) {
                        asModel(text.substring(0, at) + letter + text.substring(at + 1));
                    }
                }
            }
        }
        Check.holds(with("candle mone at 1,0 plain;left mone"));
        Check.holds(with("candle nonf at 1,0 plain;left nonf"));
    }

    @Says("WHOLES of 1 to 3 digits that do")
    static void term1_wholesHaveUpTo3Digits() {
        int[] near = {0, 0, 0, 9, 9, 20, 20};
        String[] written = {"0", "00", "000", "9", "009", "20", "020"};
        for (int i = 0; i < near.length; i++) {
            Check.due("near " + written[i], read(with("cake near " + written[i] + " wax 1")).size(4), near[i]);
            Check.faulty(with("cake near ^" + "0".repeat(4 - written[i].length()) + written[i] + " wax 1"), 1);
        }
        Check.faulty("cake near ^000000000000000000020 wax 1", 1);
        Check.faulty("cake near ^4294967297 wax 1", 1);
        Check.faulty("cake near ^999", 4);
        Check.faulty("cake near ^1000", 1);
    }

    @Says("single ones of ; ,")
    static void term1_signsAreSingle() {
        Check.faulty("cake near 2 wax 3;^;candle a at 1,0 plain", 1);
        Check.faulty("candle a at 1,^,0 plain", 1);
        Check.faulty("candle a at 1,0 plain;left a,^,", 1);
        Check.faulty("cake near 2 wax 3^,", 1);
        Check.faulty("candle a at 1^;0 plain", 1);
        Check.faulty("shaky 1,1^;1", 1);
    }

    // ---- lines

    @Says("LINE {; LINE}")
    static void term1_aTextIsOneLineOrMore() {
        Check.faulty("^", 1);
        Check.faulty("^;", 1);
        Check.faulty("^,", 1);
        Check.faulty("left none^", 6);
        Check.faulty("left none;^", 1);
        Check.faulty("left none;   ^", 1);
        Check.faulty("^;left none", 1);
        Check.faulty("left none;^;", 1);
        Check.faulty("left none ^left", 1);
        for (String first : BASE) {
            StringBuilder text = new StringBuilder(first);
            for (String other : BASE) {
                text.append(other.equals(first) ? "" : ";" + other);
            }
            Check.holds(text.toString());
        }
    }

    @Says("LINE, one of")
    static void term1_noOtherWordBeginsALine() {
        for (String word : FREE) {
            Check.faulty("^" + word + " a at 1,0", 1);
            Check.faulty("left none;^" + word, 1);
        }
        Check.faulty("^none", 1);
        Check.faulty("^cak near 2 wax 3", 1);
        Check.faulty("^cakes near 2 wax 3", 1);
        Check.faulty("^candl a at 1,0 plain", 1);
        Check.faulty("^candles a at 1,0 plain", 1);
        Check.faulty("^7", 1);
    }

    /** Every WHOLE of one to three digits at the star: those of least .. most hold, the others are fault 4, there. */
    private static void bounds(String line, int least, int most) {
        String text = with(line);
        int where = text.indexOf('*');
        for (int value = 0; value <= 999; value++) {
            String told = text.replace("*", String.valueOf(value));
            if (value >= least && value <= most) {
                Check.holds(told);
            } else {
                Check.faulty(told, 4, where);
            }
        }
    }

    @Says("cake near WHOLE wax WHOLE (0 .. 20, 1 .. 9)")
    static void term1_nearIs0To20() {
        bounds("cake near * wax 3", 0, 20);
        Check.due("near 0", read(with("cake near 0 wax 3")).size(4), 0);
        Check.due("near 20", read(with("cake near 20 wax 3")).size(4), 20);
    }

    @Says("cake near WHOLE wax WHOLE (0 .. 20, 1 .. 9)")
    static void term1_waxIs1To9() {
        bounds("cake near 2 wax *", 1, 9);
        Check.due("wax 1", read(with("cake near 2 wax 1")).size(5), 1);
        Check.due("wax 9", read(with("cake near 2 wax 9")).size(5), 9);
    }

    @Says("candle NAME at WHOLE, WHOLE KIND (0 .. 20 each;")
    static void term1_aCandleIsAt0To20Each() {
        bounds("candle a at *,7 plain", 0, 20);
        bounds("candle a at 7,* trick", 0, 20);
        ThreeBreaths x = read(with("candle a at 0,20 plain;candle b at 20,0 plain"));
        Check.due("x 0", x.candle(0, 0), 0);
        Check.due("y 20", x.candle(0, 1), 20);
        Check.due("x 20", x.candle(1, 0), 20);
        Check.due("y 0", x.candle(1, 1), 0);
    }

    @Says("KIND: plain, tall, again, or trick;")
    static void term1_kindsAreFour() {
        String[] kinds = {"plain", "tall", "again", "trick"};
        for (int kind = 0; kind < 4; kind++) {
            Check.due("kind " + kinds[kind], read(with("candle a at 1,0 " + kinds[kind])).candle(0, 2), kind);
        }
        for (String other : new String[] {"big", "plai", "plains", "tal", "talls", "agains", "tricks", "a", "none", "candle", "7", ",", ";"}) {
            Check.faulty(with("candle a at 1,0 ^" + other), 1);
        }
        Check.faulty("candle a at 1,0^", 1);
        Check.faulty("candle a at 1,0 plain ^tall", 1);
    }

    @Says("up to 10, of these up to 3 trick ones")
    static void term1_upTo10Candles() {
        for (int count = 1; count <= 10; count++) {
            String text = lines("candle * at 1,0 plain", count) + "cake near 2 wax 3;place o at 0,0;person p reach 3 spread 1";
            Check.due(count + " candles", read(text).size(0), count);
        }
        Check.faulty(lines("candle * at 1,0 plain", 10) + "^candle x at 1,0 plain", 5);
        Check.faulty(lines("candle * at 1,0 plain", 10) + "place o at 0,0;^candle", 5);
    }

    @Says("of these up to 3 trick ones")
    static void term1_upTo3TrickOnes() {
        String rest = "cake near 2 wax 3;place o at 0,0;person p reach 3 spread 1";
        String three = lines("candle * at 1,0 trick", 3);
        Check.holds(three + rest);
        Check.faulty(three + "candle x at 1,0 ^trick", 5);
        // Other kinds between them don't count; beside three trick ones there is room for seven others.
        String seven = lines("candle s* at 1,0 again", 7);
        Check.due("ten candles, three trick ones", read(seven + three + rest).size(0), 10);
        Check.due("ten candles, three trick ones first", read(three + seven + rest).size(0), 10);
        Check.faulty(three + lines("candle s* at 1,0 tall", 6) + "candle x at 1,0 ^trick", 5);
        // The eleventh candle is one too many by its first WORD, whatever its KIND.
        Check.faulty(three + seven + "^candle x at 1,0 trick", 5);
        for (String kind : new String[] {"plain", "tall", "again"}) {
            Check.due("ten " + kind, read(lines("candle * at 1,0 " + kind, 10) + rest).size(0), 10);
        }
    }

    @Says("place NAME at WHOLE, WHOLE (0 .. 20 each; up to 5)")
    static void term1_upTo5PlacesAt0To20Each() {
        bounds("place o at *,7", 0, 20);
        bounds("place o at 7,*", 0, 20);
        String rest = "cake near 2 wax 3;candle a at 1,0 plain;person r reach 3 spread 1";
        for (int count = 1; count <= 5; count++) {
            Check.due(count + " places", read(lines("place * at 1,0", count) + rest).size(1), count);
        }
        Check.faulty(lines("place * at 1,0", 5) + "^place x at 1,0", 5);
        Check.faulty(lines("place * at 1,0", 5) + rest + ";^place", 5);
    }

    @Says("or spot NAME at WHOLE, WHOLE (likewise; up to 4)")
    static void term1_upTo4SpotsAt0To20Each() {
        bounds("spot s at *,7", 0, 20);
        bounds("spot s at 7,*", 0, 20);
        for (int count = 1; count <= 4; count++) {
            Check.due(count + " spots", read(lines("spot * at 1,0", count) + String.join(";", BASE)).size(2), count);
        }
        Check.due("no spot", read(String.join(";", BASE)).size(2), 0);
        Check.faulty(lines("spot * at 1,0", 4) + "^spot x at 1,0", 5);
        Check.faulty(lines("spot * at 1,0", 4) + String.join(";", BASE) + ";^spot", 5);
    }

    @Says("person NAME reach WHOLE spread WHOLE (1 .. 30, 0 .. 30; up to 4)")
    static void term1_upTo4PeopleReach1To30Spread0To30() {
        bounds("person p reach * spread 7", 1, 30);
        bounds("person p reach 7 spread *", 0, 30);
        String rest = "cake near 2 wax 3;candle a at 1,0 plain;place o at 1,0";
        for (int count = 1; count <= 4; count++) {
            Check.due(count + " people", read(lines("person * reach 3 spread 1", count) + rest).size(3), count);
        }
        Check.faulty(lines("person * reach 3 spread 1", 4) + "^person x reach 3 spread 1", 5);
        Check.faulty(lines("person * reach 3 spread 1", 4) + rest + ";^person", 5);
    }

    @Says("or shaky WHOLE, WHOLE, WHOLE (0 .. 9 each, not all 0)")
    static void term1_shakyIs0To9EachNotAll0() {
        bounds("shaky *,0,1", 0, 9);
        bounds("shaky 0,*,1", 0, 9);
        bounds("shaky 1,0,*", 0, 9);
        bounds("shaky 0,1,*", 0, 9);
        bounds("shaky 0,0,*", 1, 9);
        Check.holds(with("shaky 9,9,9"));
        Check.holds(with("shaky 1,0,0"));
        Check.holds(with("shaky 0,1,0"));
        Check.due("shaky told", read(with("shaky 0,0,1")).size(6), 1);
        Check.due("shaky not told", read(String.join(";", BASE)).size(6), 0);
    }

    @Says("left CANDLE {, CANDLE}, or left none (unlike CANDLES)")
    static void term1_leftTellsUnlikeCandlesOrNone() {
        String ten = lines("candle * at 1,0 plain", 10) + "cake near 2 wax 3;place o at 0,0;person p reach 3 spread 1";
        Check.due("left not told", read(ten).size(7), -2);
        Check.due("left none", read(ten + ";left none").size(7), 0);
        Check.due("left the first", read(ten + ";left ca").size(7), 1);
        Check.due("left the last", read(ten + ";left cj").size(7), 512);
        Check.due("left all ten", read(ten + ";left cj,ci,ch,cg,cf,ce,cd,cc,cb,ca").size(7), 1023);
        Check.faulty(ten + ";left cj,ci,ch,cg,cf,ce,cd,cc,cb,ca,^ca", 3);
        Check.faulty(ten + ";left cj,ci,ch,cg,cf,ce,cd,cc,cb,ca,^cj", 3);
        Check.faulty(ten + ";left ca,^ca", 3);
        Check.faulty(ten + ";left^", 1);
        Check.faulty(ten + ";left ^;", 1);
        Check.faulty(ten + ";left ^,ca", 1);
        Check.faulty(ten + ";left ca,^", 1);
        Check.faulty(ten + ";left ca ^cb", 1);
        Check.faulty(ten + ";left none^,ca", 1);
        Check.faulty(ten + ";left none ^none", 1);
        Check.faulty(ten + ";left ca,^none", 1);
    }

    @Says("up to 10, of these up to 3 trick ones")
    static void term1_aTextFullOfEverything() {
        String text = lines("candle * at 1,0 trick", 3) + lines("candle t* at 1,0 again", 7) + lines("place * at 1,0", 5)
            + lines("spot * at 1,0", 4) + lines("person r* reach 3 spread 1", 4)
            + "cake near 20 wax 9;shaky 9,9,9;left ca,cb,cc,tca,tcb,tcc,tcd,tce,tcf,tcg";
        ThreeBreaths x = read(text);
        int[] want = {10, 5, 4, 4, 20, 9, 1, 1023};
        for (int what = 0; what < want.length; what++) {
            Check.due("full size(" + what + ")", x.size(what), want[what]);
        }
        for (String more : new String[] {"candle", "place", "spot", "person"}) {
            Check.faulty(text + ";^" + more, 5);
        }
        for (String more : new String[] {"cake", "shaky", "left"}) {
            Check.faulty(text + ";^" + more, 3);
        }
    }

    // ---- names

    private static final String[] NAMING = {"candle * at 1,0 plain", "place * at 1,0", "spot * at 1,0", "person * reach 3 spread 1"};

    @Says("NAMES are WORDS but cake, candle, place, spot, person, shaky, left, none")
    static void term1_eightWordsAreNoNames() {
        for (String line : NAMING) {
            for (String word : RESERVED) {
                Check.faulty(with(line.replace("*", "^" + word)), 1);
            }
            for (String word : FREE) {
                Check.holds(with(line.replace("*", word)));
            }
            Check.holds(with(line.replace("*", "cakes")));
            Check.holds(with(line.replace("*", "non")));
            Check.faulty(with(line.replace("*", "^7")), 1);
        }
        for (String word : FREE) {
            Check.due("left " + word, read(with("candle " + word + " at 1,0 plain;left " + word)).size(7), 1);
        }
        for (String word : RESERVED) {
            if (!word.equals("none")) {
                Check.faulty(with("left ^" + word), 1);
            }
        }
    }

    @Says("each told once, ahead of its use")
    static void term1_aNameIsToldOnceAheadOfItsUse() {
        for (String first : NAMING) {
            for (String second : NAMING) {
                Check.faulty(first.replace("*", "x") + ";" + second.replace("*", "^x"), 3);
                Check.faulty(first.replace("*", "x") + ";" + BASE[0] + ";" + second.replace("*", "^x"), 3);
            }
        }
        Check.holds("candle x at 1,0 plain;left x;place o at 0,0;person p reach 3 spread 1;cake near 2 wax 3");
        Check.faulty("left ^x;candle x at 1,0 plain", 2);
        Check.faulty("candle y at 1,0 plain;left y,^x;candle x at 1,0 plain", 2);
    }

    // ---- faults

    @Says("FAULTS, the first that is met from the left")
    static void term1_theFirstFaultFromTheLeft() {
        Check.faulty("cake near ^21 wax 0", 4);
        Check.faulty("cake near 20 wax ^0;cake", 4);
        Check.faulty("cake near ^21 wax !", 4);
        Check.faulty("cake near 2^! wax 0", 1);
        Check.faulty("candle a at 1,0 plain;candle ^a at 99,! big", 3);
        Check.faulty("left ^b,b!", 2);
        Check.faulty("left ^b,b;left", 2);
        Check.faulty("shaky 0,0,^0;shaky", 4);
        Check.faulty("shaky ^10,0,10", 4);
        Check.faulty("shaky 0,0^!", 1);
        Check.faulty("cake near 1 wax 1;^cake !", 3);
        Check.faulty(lines("place * at 1,0", 5) + "^place place !", 5);
        Check.faulty(lines("candle * at 1,0 trick", 3) + "candle x at ^21,0 trick", 4);
        Check.faulty(lines("candle * at 1,0 trick", 3) + "candle ^ca at 1,0 trick", 3);
        Check.faulty(lines("candle * at 1,0 trick", 3) + "candle x at 1,0 ^trick;left y", 5);
        Check.faulty("candle a at 1,0 plain;left ^b", 2);
        Check.faulty("place a at 1,0;person ^a", 3);
    }

    @Says("of one place the least number")
    static void term1_ofOnePlaceTheLeastNumber() {
        // At the end a text that doesn't go on has FORM and LACKS: FORM is the lesser.
        Check.faulty("cake near 1 wax 1;^", 1);
        Check.faulty("cake near 1 wax^", 1);
        Check.faulty("^", 1);
        Check.faulty("candle a at 1,0 plain;left a,^", 1);
        // A second left whose like is told: 3 at its WORD, not MANY.
        Check.faulty("left none;^left none", 3);
        // A CANDLE left told again that was never told: at each place only one of both.
        Check.faulty("left ^x,x", 2);
    }

    @Says("1 FORM: the first byte that begins no TOKEN")
    static void term1_fault1AtTheFirstByteThatBeginsNoToken() {
        for (String line : (ONE_OF_EACH + ";left none").replace(";left b,a", "").split(";")) {
            for (char bad : new char[] {'!', 'A', '\n', '\t', '.', '-', (char) 0, (char) 128, (char) 160, (char) 255}) {
                Check.faulty(line + "^" + bad, 1);
                Check.faulty(line + "  ^" + bad + bad, 1);
                Check.faulty("^" + bad + line, 1);
                Check.faulty(line.substring(0, line.indexOf(' ')) + "^" + bad + line, 1);
            }
        }
        Check.faulty("cake near ^-1 wax 1", 1);
        Check.faulty("cake near ^+1 wax 1", 1);
        Check.faulty("cake near 1^.5 wax 1", 1);
        Check.faulty("^Cake near 1 wax 1", 1);
        // The c is a WORD already, with which no CAKE goes on.
        Check.faulty("^cAKE near 1 wax 1", 1);
    }

    /** What the plain model, made apart from the class, finds in the text. */
    private static void asModel(String text) {
        TextModel read = new TextModel(text);
        if (read.fault == 0) {
            Check.holds(text);
        } else {
            Check.faulty(text, read.fault, read.where);
        }
    }

    private static List<int[]> tokens(String text) {
        List<int[]> found = new ArrayList<>();
        Matcher m = Pattern.compile("[a-z]+|[0-9]+|[;,]").matcher(text);
        while (m.find()) {
            found.add(new int[] {m.start(), m.end()});
        }
        return found;
    }

    @Says("or TOKEN with which no CAKE goes on")
    static void term1_fault1AtTheTokenWithWhichNoCakeGoesOn() {
        String[] put = {"cake", "candle", "place", "spot", "person", "shaky", "left", "none", "near", "wax", "at", "reach", "spread", "plain",
            "tall", "again", "trick", "a", "b", "o", "zz", "0", "1", "10", "21", "31", "999", "1000", ";", ",", "!", "abcdefghi"};
        for (int[] token : tokens(ONE_OF_EACH)) {
            for (String other : put) {
                asModel(ONE_OF_EACH.substring(0, token[0]) + " " + other + " " + ONE_OF_EACH.substring(token[1]));
            }
            String own = ONE_OF_EACH.substring(token[0], token[1]);
            asModel(ONE_OF_EACH.substring(0, token[0]) + " " + ONE_OF_EACH.substring(token[1]));
            asModel(ONE_OF_EACH.substring(0, token[0]) + own + " " + ONE_OF_EACH.substring(token[0]));
        }
    }

    @Says("(the end: its place)")
    static void term1_fault1AtTheEnd() {
        for (int length = 0; length <= ONE_OF_EACH.length(); length++) {
            asModel(ONE_OF_EACH.substring(0, length));
            asModel(ONE_OF_EACH.substring(0, length) + "  ");
        }
        Check.faulty("cake^", 1);
        Check.faulty("cake  ^", 1);
        Check.faulty("cake near^", 1);
        Check.faulty("cake near 1^", 1);
        Check.faulty("cake near 1 wax^", 1);
        Check.faulty("candle^", 1);
        Check.faulty("candle a^", 1);
        Check.faulty("candle a at 1,0  ^", 1);
        Check.faulty("person p reach 1 spread^", 1);
        Check.faulty("shaky 0,0,^", 1);
        Check.faulty("left^", 1);
    }

    @Says("2 a NAME that isn't told, or is of another sort than must stand there; at it.")
    static void term1_fault2() {
        Check.faulty("left ^x", 2);
        Check.faulty("candle a at 1,0 plain;left ^b", 2);
        Check.faulty("candle ab at 1,0 plain;left ^a", 2);
        Check.faulty("candle a at 1,0 plain;left ^aa", 2);
        Check.faulty("candle a at 1,0 plain;left a,^b", 2);
        Check.faulty("place x at 1,0;left ^x", 2);
        Check.faulty("spot x at 1,0;left ^x", 2);
        Check.faulty("person x reach 1 spread 1;left ^x", 2);
        Check.faulty("candle a at 1,0 plain;place x at 1,0;left a,^x", 2);
        Check.faulty("left ^near", 2);
        // What another text told isn't told in this one.
        ThreeBreaths x = read(with("candle x at 1,0 plain"));
        Check.due(x, "the next text", Check.cake(x, "left x"), -1, 4);
        Check.due("its fault()", x.fault(), 2);
        Check.due("its where()", x.where(), 5);
    }

    @Says("3 a NAME told again, a CANDLE left told again; at it; a second cake, shaky, left; at that WORD.")
    static void term1_fault3() {
        Check.faulty("candle a at 1,0 plain;candle ^a", 3);
        Check.faulty("candle a at 1,0 plain;place ^a", 3);
        Check.faulty("candle a at 1,0 plain;left a,^a", 3);
        Check.faulty("candle a at 1,0 plain;candle b at 1,0 plain;left a,b,^a", 3);
        Check.faulty("cake near 1 wax 1;^cake", 3);
        Check.faulty("cake near 0 wax 1;^cake", 3);
        Check.faulty("cake near 1 wax 1;left none;^cake near 1 wax 1", 3);
        Check.faulty("shaky 1,1,1;^shaky", 3);
        Check.faulty("shaky 0,1,0;^shaky 0,1,0", 3);
        Check.faulty("left none;^left", 3);
        Check.faulty("candle a at 1,0 plain;left a;^left none", 3);
        Check.faulty("candle a at 1,0 plain;left none;^left a", 3);
        // Once in each of two texts is once.
        ThreeBreaths x = read(ONE_OF_EACH);
        Check.due(x, "the same text once more", Check.cake(x, ONE_OF_EACH), 16, 0);
    }

    @Says("4 a WHOLE out of bounds (of shaky, if all are 0: the last one); at it.")
    static void term1_fault4() {
        Check.faulty("cake near ^21", 4);
        Check.faulty("cake near 1 wax ^0", 4);
        Check.faulty("candle a at ^21", 4);
        Check.faulty("candle a at 1,^21", 4);
        Check.faulty("person p reach ^0", 4);
        Check.faulty("person p reach ^31", 4);
        Check.faulty("person p reach 1 spread ^31", 4);
        Check.faulty("shaky ^10", 4);
        Check.faulty("shaky 0,^10", 4);
        Check.faulty("shaky 0,0,^10", 4);
        Check.faulty("shaky 0,0,^0", 4);
        Check.faulty("shaky 0,0,^000", 4);
        Check.faulty("shaky 0,0^", 1);
        Check.faulty("shaky 000,00,  ^0  ;left none", 4);
    }

    @Says("5 MANY: a LINE more of its sort than there is room for, at its first WORD; a fourth trick one: at its KIND.")
    static void term1_fault5() {
        Check.faulty(lines("candle * at 1,0 plain", 10) + "^candle", 5);
        Check.faulty(lines("candle * at 1,0 plain", 10) + "^candle cake", 5);
        Check.faulty(lines("candle * at 1,0 plain", 10) + "^candle ca", 5);
        Check.faulty(lines("place * at 1,0", 5) + "^place", 5);
        Check.faulty(lines("spot * at 1,0", 4) + "^spot", 5);
        Check.faulty(lines("person * reach 1 spread 1", 4) + "^person", 5);
        Check.faulty(lines("candle * at 1,0 trick", 3) + "candle x at 1,0 ^trick", 5);
        // What isn't a line yet isn't one more.
        Check.faulty(lines("candle * at 1,0 plain", 10) + "^candles", 1);
        Check.faulty(lines("place * at 1,0", 5) + "^", 1);
    }

    @Says("6 LACKS, at the end: no cake, no candle, no place, no person.")
    static void term1_fault6() {
        for (int without = 0; without < BASE.length; without++) {
            StringBuilder text = new StringBuilder("left none;shaky 1,1,1;spot s at 1,0");
            for (int i = 0; i < BASE.length; i++) {
                text.append(i == without ? "" : ";" + BASE[i]);
            }
            Check.faulty(text + "^", 6);
            Check.faulty(text + "   ^", 6);
            Check.faulty(text + "^!", 1);
            Check.faulty(text + ";^", 1);
        }
        Check.faulty("left none^", 6);
        // No spot, no shaky, no left are no lacks; nor is near 0.
        Check.holds(String.join(";", BASE));
        Check.holds(with("cake near 0 wax 1"));
    }
}
