import java.util.Arrays;
import java.util.NoSuchElementException;

/** Candles on a cake and the breaths that blow them out; the project's document says what each call answers. */
public final class ThreeBreaths {
    public static final int NONE = -1;

    private static final int NEVER = -2;
    private static final int REFUSED_GAIN = -100;

    private static final int MOST_CANDLES = 10;
    private static final int MOST_TRICKS = 3;
    private static final int MOST_PLACES = 5;
    private static final int MOST_SPOTS = 4;
    private static final int MOST_PEOPLE = 4;
    private static final int MOST_FEW = 9;
    private static final int MOST_CHANCE = 3;
    private static final int MOST_FITS = 2;
    private static final int WAYS = 16;
    private static final int MOST_BREATHS = WAYS * MOST_PLACES * MOST_PEOPLE;

    private static final int PLAIN = 0;
    private static final int TALL = 1;
    private static final int AGAIN = 2;
    private static final int TRICK = 3;

    private static final int OF_CANDLE = 0;
    private static final int OF_PLACE = 1;
    private static final int OF_PERSON = 2;
    private static final int OF_SPOT = 3;
    private static final int OF_ALL = 4;

    private static final int NO_SUCH = 1;
    private static final int BAD_NUMBER = 2;
    private static final int NO_ROOM = 3;
    private static final int FAULTY = 4;
    private static final int NOT_SO = 5;
    private static final int THERE_IS_NONE = 6;

    private static final int[] WAY_X = {1, 2, 1, 1, 0, -1, -1, -2, -1, -2, -1, -1, 0, 1, 1, 2};
    private static final int[] WAY_Y = {0, 1, 1, 2, 1, 2, 1, 1, 0, -1, -1, -2, -1, -2, -1, -1};

    private final Reader reader;
    private boolean told;
    private final Board board;
    private final Past past;
    private Search search;
    private Odds odds;
    private Traces traces;
    private int trouble;
    private int fault;
    private int faultPlace;

    public ThreeBreaths() {
        reader = new Reader();
        board = new Board();
        past = new Past();
    }

    // ---- the cake

    public int feed(int a, int b, int c, int d, int e) {
        if (!reader.hasRoom()) {
            return NONE;
        }
        reader.append(a);
        reader.append(b);
        reader.append(c);
        reader.append(d);
        reader.append(e);
        return reader.fed;
    }

    public int cake(int n) {
        if (n < 0 || n > reader.fed) {
            return refuse(BAD_NUMBER);
        }
        fault = reader.read(n);
        faultPlace = reader.place();
        if (fault != 0) {
            return refuse(FAULTY);
        }
        Cake before = board.cake;
        board.lay(reader.draft);
        reader.draft = before;
        told = true;
        past.begin(board.allBurning());
        return answer(board.breaths);
    }

    public int fault() {
        return fault;
    }

    public int where() {
        return trouble == FAULTY ? faultPlace : NONE;
    }

    // ---- candles, breaths

    public int candle(int c, int what) {
        if (!isCandle(c) || what < 0 || what > 2) {
            return refuse(NO_SUCH);
        }
        if (what == 0) {
            return answer(board.cake.candles.x[c]);
        }
        return answer(what == 1 ? board.cake.candles.y[c] : board.cake.kinds[c]);
    }

    public int fan(int breath) {
        return isBreath(breath) ? answer(board.fanOf[breath]) : refuse(NO_SUCH);
    }

    public int breath(int person, int place, int way) {
        if (!isPerson(person) || !isPlace(place) || way < 0 || way >= WAYS) {
            return refuse(NO_SUCH);
        }
        return answer(board.breathBy(person, place, way));
    }

    public int breathOf(int breath, int what) {
        if (!isBreath(breath) || what < 0 || what > 2) {
            return refuse(NO_SUCH);
        }
        if (what == 0) {
            return answer(board.personOf(breath));
        }
        return answer(what == 1 ? board.placeOf(breath) : board.wayOf(breath));
    }

    public int fans() {
        return told ? answer(board.unlikeFansWithCandles()) : refuse(NO_SUCH);
    }

    public int spared() {
        return told ? answer(board.outOfAllFans()) : refuse(NO_SUCH);
    }

    public int lights(int c, boolean it) {
        if (!isCandle(c)) {
            return refuse(NO_SUCH);
        }
        return answer(it ? board.lightersOf(c) : board.lit[1 << c]);
    }

    // ---- now

    public int burning() {
        return told ? answer(board.burningIn(past.now)) : refuse(NO_SUCH);
    }

    public int dazed() {
        return told ? answer(board.dazedIn(past.now)) : refuse(NO_SUCH);
    }

    public int gain(int breath) {
        if (!isBreath(breath)) {
            trouble = NO_SUCH;
            return REFUSED_GAIN;
        }
        return answer(board.gainOf(past.now, board.fanOf[breath]));
    }

    public int greedy() {
        return told ? answer(board.greediest(past.now)) : refuse(NO_SUCH);
    }

    public int blow(int breath) {
        if (!isBreath(breath)) {
            return refuse(NO_SUCH);
        }
        past.act(board.behind(past.now, board.fanOf[breath]));
        return answer(board.countIn(past.now));
    }

    public boolean light(int c) {
        if (!isCandle(c)) {
            return deny(NO_SUCH);
        }
        if (board.burns(past.now, c)) {
            return deny(NOT_SO);
        }
        past.act(board.withLit(past.now, c));
        return grant();
    }

    public boolean all() {
        if (!told) {
            return deny(NO_SUCH);
        }
        past.act(board.allBurning());
        return grant();
    }

    public boolean undo() {
        return past.takeBack() ? grant() : deny(THERE_IS_NONE);
    }

    // ---- fewest

    public int fewest() {
        return told ? answer(searching().fewestFrom(past.now)) : refuse(NO_SUCH);
    }

    public int row(int i) {
        // Below 0 is no number of a breath in any row, so it is refused ahead of whether there is a row.
        if (!told || i < 0) {
            return refuse(NO_SUCH);
        }
        int length = searching().fewestFrom(past.now);
        if (length == NEVER) {
            return refuse(THERE_IS_NONE);
        }
        if (i >= length) {
            return refuse(NO_SUCH);
        }
        return answer(searching().rowAt(past.now, i));
    }

    public int from(int place) {
        if (!isPlace(place)) {
            return refuse(NO_SUCH);
        }
        return answer(searching().fewestOf(past.now, OF_PLACE, place));
    }

    public int by(int person) {
        if (!isPerson(person)) {
            return refuse(NO_SUCH);
        }
        return answer(searching().fewestOf(past.now, OF_PERSON, person));
    }

    public int inTime() {
        if (!told) {
            return refuse(NO_SUCH);
        }
        int length = searching().fewestFrom(past.now);
        return answer(length != NEVER && length <= board.cake.wax ? 1 : 0);
    }

    public int walk(int person, int place) {
        if (!isPerson(person) || !isPlace(place)) {
            return refuse(NO_SUCH);
        }
        return answer(searching().leastWay(past.now, person, place));
    }

    public int each() {
        if (!told) {
            return refuse(NO_SUCH);
        }
        int people = searching().teamFrom(past.now);
        return answer(people == NEVER ? NEVER : Integer.bitCount(people));
    }

    public int team() {
        return told ? answer(searching().teamFrom(past.now)) : refuse(NO_SUCH);
    }

    public int greedyEnd() {
        return told ? answer(board.countIn(board.behindGreed(past.now))) : refuse(NO_SUCH);
    }

    public int soonest(int c) {
        if (!isCandle(c)) {
            return refuse(NO_SUCH);
        }
        return answer(searching().soonestOut(past.now, c));
    }

    public int few(int n) {
        if (!told) {
            return refuse(NO_SUCH);
        }
        if (n < 0 || n > MOST_FEW) {
            return refuse(BAD_NUMBER);
        }
        return answer(searching().fewestBurning(past.now, n));
    }

    // ---- chances, what was seen, one more

    public long chance(int n, boolean lower) {
        if (isRefused(n, MOST_CHANCE)) {
            return NONE;
        }
        return inLowestTerms(reckoning().likeliness(past.now, n), reckoning().outOf(n), lower);
    }

    public int best(int n) {
        if (isRefused(n, MOST_CHANCE)) {
            return NONE;
        }
        return answer(board.countIn(past.now) == 0 ? NEVER : reckoning().likeliestBreath(past.now, n));
    }

    public long content(int n, boolean lower) {
        if (isRefused(n, MOST_CHANCE)) {
            return NONE;
        }
        return inLowestTerms(reckoning().meanLeft(past.now, n), reckoning().outOf(n), lower);
    }

    public int fits(int n) {
        return isFitRefused(n) ? NONE : answer(tracing().count(n));
    }

    public int fitAt(int n, int i) {
        if (isFitRefused(n)) {
            return NONE;
        }
        int first = tracing().firstBreath(n, i);
        return first == NONE ? refuse(NO_SUCH) : answer(first);
    }

    public int more(int spot) {
        if (!told || spot < 0 || spot >= board.cake.spots.count) {
            return refuse(NO_SUCH);
        }
        return answer(searching().fewestWithGuest(past.now, spot));
    }

    public int less(int sort, int i) {
        if (sort == OF_CANDLE && isCandle(i)) {
            return answer(searching().fewestWithoutCandle(past.now, i));
        }
        if (sort == OF_PLACE && isPlace(i) || sort == OF_PERSON && isPerson(i)) {
            return answer(searching().fewestWithout(past.now, sort, i));
        }
        return refuse(NO_SUCH);
    }

    // ---- images, what is told

    public int image() {
        if (!told) {
            return refuse(NO_SUCH);
        }
        int number = past.keepImage();
        return number == NONE ? refuse(NO_ROOM) : answer(number);
    }

    public boolean back(int image) {
        return past.returnTo(image) ? grant() : deny(NO_SUCH);
    }

    public int led(int i) throws NoSuchElementException {
        int before = 0;
        for (int c = 0; told && c < board.cake.candles.count; c++) {
            if (!board.burns(past.now, c)) {
                if (before == i) {
                    return c;
                }
                before++;
            }
        }
        throw new NoSuchElementException();
    }

    public int size(int what) {
        switch (what) {
            case 8:
                return past.acts;
            case 9:
                return past.imageCount;
            case 10:
                return reader.fed;
            default:
                return sizeOfCake(what);
        }
    }

    public int trouble() {
        return trouble;
    }

    // ---- what the calls share

    private int sizeOfCake(int what) {
        if (what < 0 || what > 7) {
            return NONE;
        }
        if (!told) {
            return 0;
        }
        switch (what) {
            case 0:
                return board.cake.candles.count;
            case 1:
                return board.cake.places.count;
            case 2:
                return board.cake.spots.count;
            case 3:
                return board.cake.people;
            case 4:
                return board.cake.near;
            case 5:
                return board.cake.wax;
            case 6:
                return board.cake.shakyTold ? 1 : 0;
            default:
                return board.cake.left;
        }
    }

    private boolean isCandle(int c) {
        return told && c >= 0 && c < board.cake.candles.count;
    }

    private boolean isPlace(int place) {
        return told && place >= 0 && place < board.cake.places.count;
    }

    private boolean isPerson(int person) {
        return told && person >= 0 && person < board.cake.people;
    }

    private boolean isBreath(int breath) {
        return told && breath >= 0 && breath < board.breaths;
    }

    /** Whether a call for n breaths must be refused, and if so why. */
    private boolean isRefused(int n, int most) {
        if (!told) {
            trouble = NO_SUCH;
            return true;
        }
        if (n < 1 || n > most) {
            trouble = BAD_NUMBER;
            return true;
        }
        return false;
    }

    private boolean isFitRefused(int n) {
        if (isRefused(n, MOST_FITS)) {
            return true;
        }
        if (board.cake.left == NEVER) {
            trouble = THERE_IS_NONE;
            return true;
        }
        return false;
    }

    private int refuse(int why) {
        trouble = why;
        return NONE;
    }

    private int answer(int value) {
        trouble = 0;
        return value;
    }

    private boolean deny(int why) {
        trouble = why;
        return false;
    }

    private boolean grant() {
        trouble = 0;
        return true;
    }

    private long inLowestTerms(long upper, long under, boolean lower) {
        trouble = 0;
        long common = commonMeasure(upper, under);
        if (common == 0) {
            return 0;
        }
        return (lower ? under : upper) / common;
    }

    private static long commonMeasure(long a, long b) {
        long greater = a;
        long rest = b;
        for (int i = 0; i < 100 && rest != 0; i++) {
            long next = greater % rest;
            greater = rest;
            rest = next;
        }
        return greater;
    }

    // The rows for these are large: an object that never asks for them goes without.

    private Search searching() {
        if (search == null) {
            search = new Search(board);
        }
        return search;
    }

    private Odds reckoning() {
        if (odds == null) {
            odds = new Odds(board);
        }
        return odds;
    }

    private Traces tracing() {
        if (traces == null) {
            traces = new Traces(board);
        }
        return traces;
    }

    /** Points of one sort, in the order in which they are told. */
    private static final class Points {
        private final int most;
        private final int[] x = new int[MOST_CANDLES];
        private final int[] y = new int[MOST_CANDLES];
        private int count;

        Points(int most) {
            this.most = most;
        }

        boolean isFull() {
            return count >= most || count >= x.length;
        }

        void add(int atX, int atY) {
            if (!isFull()) {
                x[count] = atX;
                y[count] = atY;
                count++;
            }
        }
    }

    /** What a text tells. */
    private static final class Cake {
        private final Points candles = new Points(MOST_CANDLES);
        private final int[] kinds = new int[MOST_CANDLES];
        private final Points places = new Points(MOST_PLACES);
        private final Points spots = new Points(MOST_SPOTS);
        private final int[] reach = new int[MOST_PEOPLE];
        private final int[] spread = new int[MOST_PEOPLE];
        private int people;
        private int near;
        private int wax;
        private final int[] shaky = new int[3];
        private boolean shakyTold;
        private int left;

        void clear() {
            candles.count = 0;
            places.count = 0;
            spots.count = 0;
            people = 0;
            near = NONE;
            wax = 0;
            // Steady until told otherwise: every breath goes as chosen.
            shaky[0] = 0;
            shaky[1] = 1;
            shaky[2] = 0;
            shakyTold = false;
            left = NEVER;
        }

        boolean lacks() {
            return near == NONE || candles.count == 0 || places.count == 0 || people == 0;
        }

        int trickCount() {
            int tricks = 0;
            for (int c = 0; c < candles.count; c++) {
                if (kinds[c] == TRICK) {
                    tricks++;
                }
            }
            return tricks;
        }
    }

    /** Has the tape and reads it from the left, token by token, up to the first fault: that is the one to tell. */
    private static final class Reader {
        private static final int TAPE_BYTES = 900;
        private static final int FED_BYTES = 20;

        private static final int FORM = 1;
        private static final int UNKNOWN = 2;
        private static final int TWICE = 3;
        private static final int BOUNDS = 4;
        private static final int MANY = 5;
        private static final int LACKS = 6;

        private static final int END = 0;
        private static final int WORD = 1;
        private static final int WHOLE = 2;
        private static final int SEMICOLON = 3;
        private static final int COMMA = 4;
        private static final int NO_TOKEN = 5;

        private static final int MOST_LETTERS = 8;
        private static final int MOST_DIGITS = 3;
        private static final int MOST_NAMES = MOST_CANDLES + MOST_PLACES + MOST_SPOTS + MOST_PEOPLE;
        private static final int EDGE = 20;

        private final byte[] text = new byte[TAPE_BYTES];
        private int fed;
        private int length;
        private int token;
        private int at;
        private int end;
        private long word;
        private int value;
        private int number;
        private final long[] names = new long[MOST_NAMES];
        private final int[] sorts = new int[MOST_NAMES];
        private final int[] numbers = new int[MOST_NAMES];
        private int named;
        private Cake draft = new Cake();
        private int fault;

        boolean hasRoom() {
            return fed + FED_BYTES <= TAPE_BYTES;
        }

        void append(int four) {
            for (int shift = 24; shift >= 0 && fed < text.length; shift -= 8) {
                text[fed] = (byte) (four >>> shift);
                fed++;
            }
        }

        /** The fault of the first n bytes; 0, and the draft is what they tell, without one. The tape is empty then. */
        int read(int n) {
            draft.clear();
            length = Math.min(n, fed);
            fed = 0;
            end = 0;
            named = 0;
            fault = 0;
            advance();
            boolean goesOn = takeLine();
            for (int lines = 0; lines < length && goesOn && token != END; lines++) {
                goesOn = takeSign(SEMICOLON) && takeLine();
            }
            if (goesOn && draft.lacks()) {
                fault = LACKS;
            }
            return fault;
        }

        /** Where the latest fault is: reading stops with the token at fault in hand. */
        int place() {
            return at;
        }

        private boolean fails(int which) {
            fault = which;
            return false;
        }

        private boolean takeLine() {
            if (says("cake")) {
                return takeCake();
            }
            if (says("candle")) {
                return takePoint(draft.candles, OF_CANDLE) && takeKind();
            }
            if (says("place")) {
                return takePoint(draft.places, OF_PLACE);
            }
            if (says("spot")) {
                return takePoint(draft.spots, OF_SPOT);
            }
            if (says("person")) {
                return takePerson();
            }
            if (says("shaky")) {
                return takeShaky();
            }
            return says("left") ? takeLeft() : fails(FORM);
        }

        private boolean takeCake() {
            if (draft.near != NONE) {
                return fails(TWICE);
            }
            advance();
            if (!takeWord("near") || !takeWhole(0, EDGE)) {
                return false;
            }
            draft.near = number;
            if (!takeWord("wax") || !takeWhole(1, 9)) {
                return false;
            }
            draft.wax = number;
            return true;
        }

        private boolean takePoint(Points points, int sort) {
            if (points.isFull()) {
                return fails(MANY);
            }
            advance();
            if (!takeNewName(sort, points.count) || !takeWord("at") || !takeWhole(0, EDGE)) {
                return false;
            }
            int x = number;
            if (!takeSign(COMMA) || !takeWhole(0, EDGE)) {
                return false;
            }
            points.add(x, number);
            return true;
        }

        private boolean takeKind() {
            int kind = kindSaid();
            if (kind == NONE) {
                return fails(FORM);
            }
            // The candle itself is told by now, but not yet its kind.
            int candle = draft.candles.count - 1;
            if (candle < 0) {
                return fails(FORM);
            }
            draft.kinds[candle] = PLAIN;
            if (kind == TRICK && draft.trickCount() >= MOST_TRICKS) {
                return fails(MANY);
            }
            draft.kinds[candle] = kind;
            advance();
            return true;
        }

        private int kindSaid() {
            if (says("plain")) {
                return PLAIN;
            }
            if (says("tall")) {
                return TALL;
            }
            if (says("again")) {
                return AGAIN;
            }
            return says("trick") ? TRICK : NONE;
        }

        private boolean takePerson() {
            int person = draft.people;
            if (person >= MOST_PEOPLE) {
                return fails(MANY);
            }
            advance();
            if (!takeNewName(OF_PERSON, person) || !takeWord("reach") || !takeWhole(1, 30)) {
                return false;
            }
            draft.reach[person] = number;
            if (!takeWord("spread") || !takeWhole(0, 30)) {
                return false;
            }
            draft.spread[person] = number;
            draft.people++;
            return true;
        }

        private boolean takeShaky() {
            if (draft.shakyTold) {
                return fails(TWICE);
            }
            draft.shakyTold = true;
            advance();
            if (!takeWhole(0, 9)) {
                return false;
            }
            draft.shaky[0] = number;
            if (!takeSign(COMMA) || !takeWhole(0, 9)) {
                return false;
            }
            draft.shaky[1] = number;
            if (!takeSign(COMMA)) {
                return false;
            }
            int least = draft.shaky[0] + draft.shaky[1] == 0 ? 1 : 0;
            if (!takeWhole(least, 9)) {
                return false;
            }
            draft.shaky[2] = number;
            return true;
        }

        private boolean takeLeft() {
            if (draft.left != NEVER) {
                return fails(TWICE);
            }
            draft.left = 0;
            advance();
            if (says("none")) {
                advance();
                return true;
            }
            for (int i = 0; i <= MOST_CANDLES; i++) {
                if (!takeCandleLeft()) {
                    return false;
                }
                if (token != COMMA) {
                    return true;
                }
                advance();
            }
            return fails(FORM);
        }

        private boolean takeCandleLeft() {
            if (!isName()) {
                return fails(FORM);
            }
            int i = find(word);
            if (i == NONE || sorts[i] != OF_CANDLE) {
                return fails(UNKNOWN);
            }
            int bit = 1 << numbers[i];
            if ((draft.left & bit) != 0) {
                return fails(TWICE);
            }
            draft.left |= bit;
            advance();
            return true;
        }

        private boolean takeNewName(int sort, int which) {
            if (!isName()) {
                return fails(FORM);
            }
            if (find(word) != NONE) {
                return fails(TWICE);
            }
            if (named >= names.length) {
                return fails(MANY);
            }
            names[named] = word;
            sorts[named] = sort;
            numbers[named] = which;
            named++;
            advance();
            return true;
        }

        private int find(long name) {
            for (int i = 0; i < named; i++) {
                if (names[i] == name) {
                    return i;
                }
            }
            return NONE;
        }

        private boolean isName() {
            boolean starts = says("cake") || says("candle") || says("place") || says("spot") || says("person");
            return token == WORD && !starts && !says("shaky") && !says("left") && !says("none");
        }

        private boolean says(String wanted) {
            if (token != WORD || end - at != wanted.length()) {
                return false;
            }
            for (int i = 0; i < wanted.length(); i++) {
                if (text[at + i] != wanted.charAt(i)) {
                    return false;
                }
            }
            return true;
        }

        private boolean takeWord(String wanted) {
            if (!says(wanted)) {
                return fails(FORM);
            }
            advance();
            return true;
        }

        private boolean takeWhole(int least, int most) {
            if (token != WHOLE) {
                return fails(FORM);
            }
            if (value < least || value > most) {
                return fails(BOUNDS);
            }
            number = value;
            advance();
            return true;
        }

        private boolean takeSign(int wanted) {
            if (token != wanted) {
                return fails(FORM);
            }
            advance();
            return true;
        }

        private void advance() {
            while (end < length && text[end] == ' ') {
                end++;
            }
            at = end;
            if (at >= length) {
                token = END;
            } else if (isLetter(text[at])) {
                readWord();
            } else if (isDigit(text[at])) {
                readWhole();
            } else {
                token = text[at] == ';' ? SEMICOLON : text[at] == ',' ? COMMA : NO_TOKEN;
                end++;
            }
        }

        private void readWord() {
            word = 0;
            while (end < length && isLetter(text[end])) {
                word = word * 32 + (text[end] - 'a' + 1);
                end++;
            }
            token = end - at <= MOST_LETTERS ? WORD : NO_TOKEN;
        }

        private void readWhole() {
            value = 0;
            while (end < length && isDigit(text[end])) {
                value = value * 10 + (text[end] - '0');
                end++;
            }
            token = end - at <= MOST_DIGITS ? WHOLE : NO_TOKEN;
        }

        private static boolean isLetter(int sign) {
            return sign >= 'a' && sign <= 'z';
        }

        private static boolean isDigit(int sign) {
            return sign >= '0' && sign <= '9';
        }
    }

    /**
     * The breaths of a cake and what each does. A moment is one number: what burns, as bits, times 8, and the dazed
     * ones among the trick ones, as three bits: so a moment is an index, too, and 0 is the moment when none burns.
     */
    private static final class Board {
        private static final int DAZE_BITS = 3;
        private static final int DAZES = 8;
        private static final int SETS = 1 << MOST_CANDLES;
        private static final int GUEST = SETS;
        private static final int MOMENTS = SETS * DAZES;
        private static final int MOMENTS_WITH_GUEST = 2 * MOMENTS;

        private Cake cake = new Cake();
        private int laid;
        private int breaths;
        private final int[] fanOf = new int[MOST_BREATHS];
        private final int[] unlikeOf = new int[MOST_BREATHS];
        private final int[] unlike = new int[MOST_BREATHS];
        private final int[] sharers = new int[MOST_BREATHS];
        private int unlikeCount;
        private final int[] unlikeBySet = new int[SETS];
        private final int[] lit = new int[SETS];
        private final int[] trickBits = new int[MOST_TRICKS];
        private int tricks;
        private final int[] dazes = new int[DAZES];
        private int missing;
        private int guestLights;

        void lay(Cake told) {
            cake = told;
            laid++;
            breaths = WAYS * cake.places.count * cake.people;
            missing = 0;
            findFans();
            findUnlikeFans();
            findTricks();
            findLit();
        }

        private void findFans() {
            for (int b = 0; b < breaths; b++) {
                int in = 0;
                for (int c = 0; c < cake.candles.count; c++) {
                    if (isIn(b, cake.candles.x[c], cake.candles.y[c], cake.kinds[c] == TALL)) {
                        in |= 1 << c;
                    }
                }
                fanOf[b] = in;
            }
        }

        private boolean isIn(int breath, int candleX, int candleY, boolean tall) {
            int place = placeOf(breath);
            int x = candleX - cake.places.x[place];
            int y = candleY - cake.places.y[place];
            if (x == 0 && y == 0) {
                return true;
            }
            int way = wayOf(breath);
            int person = personOf(breath);
            int dot = x * WAY_X[way] + y * WAY_Y[way];
            int cross = WAY_X[way] * y - WAY_Y[way] * x;
            int square = (x * x + y * y) * (tall ? 4 : 1);
            return dot > 0 && 10 * Math.abs(cross) <= cake.spread[person] * dot
                && square <= cake.reach[person] * cake.reach[person];
        }

        /** Breaths of like fans do the same: whoever only asks what can be tries each unlike one once. */
        private void findUnlikeFans() {
            Arrays.fill(unlikeBySet, 0);
            unlikeCount = 0;
            for (int b = 0; b < breaths; b++) {
                int set = fanOf[b];
                if (unlikeBySet[set] == 0) {
                    unlike[unlikeCount] = set;
                    sharers[unlikeCount] = 0;
                    unlikeCount++;
                    unlikeBySet[set] = unlikeCount;
                }
                unlikeOf[b] = unlikeBySet[set] - 1;
                sharers[unlikeOf[b]]++;
            }
        }

        private void findTricks() {
            tricks = 0;
            Arrays.fill(trickBits, 0);
            int count = 0;
            for (int c = 0; c < cake.candles.count; c++) {
                if (cake.kinds[c] == TRICK && count < trickBits.length) {
                    trickBits[count] = 1 << c;
                    tricks |= 1 << c;
                    count++;
                }
            }
            for (int code = 0; code < DAZES; code++) {
                dazes[code] = 0;
                for (int t = 0; t < trickBits.length; t++) {
                    if ((code >> t & 1) != 0) {
                        dazes[code] |= trickBits[t];
                    }
                }
            }
        }

        private void findLit() {
            lit[0] = 0;
            for (int c = 0; c < cake.candles.count; c++) {
                int alone = litBy(c);
                for (int others = 0; others < 1 << c; others++) {
                    lit[1 << c | others] = alone | lit[others];
                }
            }
        }

        private int litBy(int c) {
            int found = 0;
            for (int other = 0; other < cake.candles.count; other++) {
                if (other != c && cake.kinds[other] == AGAIN && isNear(other, cake.candles.x[c], cake.candles.y[c])) {
                    found |= 1 << other;
                }
            }
            return found;
        }

        private boolean isNear(int c, int atX, int atY) {
            int x = cake.candles.x[c] - atX;
            int y = cake.candles.y[c] - atY;
            return x * x + y * y <= cake.near * cake.near;
        }

        int lightersOf(int c) {
            int found = 0;
            if (cake.kinds[c] != AGAIN) {
                return found;
            }
            for (int other = 0; other < cake.candles.count; other++) {
                if (other != c && isNear(c, cake.candles.x[other], cake.candles.y[other])) {
                    found |= 1 << other;
                }
            }
            return found;
        }

        int breathBy(int person, int place, int way) {
            return WAYS * (cake.places.count * person + place) + way;
        }

        int wayOf(int breath) {
            return breath % WAYS;
        }

        int placeOf(int breath) {
            return cake.places.count == 0 ? 0 : breath / WAYS % cake.places.count;
        }

        int personOf(int breath) {
            return cake.places.count == 0 ? 0 : breath / WAYS / cake.places.count;
        }

        int unlikeFansWithCandles() {
            return unlikeBySet[0] == 0 ? unlikeCount : unlikeCount - 1;
        }

        int outOfAllFans() {
            int in = 0;
            for (int f = 0; f < unlikeCount; f++) {
                in |= unlike[f];
            }
            return allCandles() & ~in;
        }

        int allCandles() {
            return (1 << cake.candles.count) - 1;
        }

        int allBurning() {
            return moment(allCandles(), 0);
        }

        int burningIn(int moment) {
            return moment >> DAZE_BITS;
        }

        int countIn(int moment) {
            return Integer.bitCount(moment >> DAZE_BITS);
        }

        int dazedIn(int moment) {
            return dazes[moment & (DAZES - 1)];
        }

        boolean burns(int moment, int c) {
            return (burningIn(moment) >> c & 1) != 0;
        }

        int withLit(int moment, int c) {
            return moment(burningIn(moment) | 1 << c, dazedIn(moment));
        }

        int without(int moment, int c) {
            return moment(burningIn(moment) & ~(1 << c), dazedIn(moment) & ~(1 << c));
        }

        private int moment(int burning, int dazed) {
            int code = 0;
            if (dazed != 0) {
                for (int t = 0; t < trickBits.length; t++) {
                    if ((dazed & trickBits[t]) != 0) {
                        code |= 1 << t;
                    }
                }
            }
            return burning << DAZE_BITS | code;
        }

        /** The moment behind a breath with this fan. */
        int behind(int moment, int fan) {
            int burning = moment >> DAZE_BITS;
            // Only a trick one that holds out is dazed behind a breath: the others are out, or weren't in the fan.
            int held = burning & fan & tricks & ~dazes[moment & (DAZES - 1)];
            int still = burning & ~fan | held;
            int again = lit[still & (SETS - 1)];
            if ((still & GUEST) != 0) {
                again |= guestLights;
            }
            return moment(still | again & ~missing, held);
        }

        int gainOf(int moment, int fan) {
            return countIn(moment) - countIn(behind(moment, fan));
        }

        int greediest(int moment) {
            int best = 0;
            int most = REFUSED_GAIN;
            for (int b = 0; b < breaths; b++) {
                int gained = gainOf(moment, fanOf[b]);
                if (gained > most) {
                    most = gained;
                    best = b;
                }
            }
            return best;
        }

        int behindGreed(int moment) {
            int then = moment;
            for (int blown = 0; blown < cake.wax; blown++) {
                int fan = fanOf[greediest(then)];
                if (gainOf(then, fan) <= 0) {
                    return then;
                }
                then = behind(then, fan);
            }
            return then;
        }

        /** The guest, a plain candle at a spot, burns only where a moment says so; it lights others, too. */
        void seatGuest(int spot) {
            guestLights = 0;
            for (int c = 0; c < cake.candles.count; c++) {
                if (cake.kinds[c] == AGAIN && isNear(c, cake.spots.x[spot], cake.spots.y[spot])) {
                    guestLights |= 1 << c;
                }
            }
        }

        int fanWithGuest(int breath, int spot) {
            return isIn(breath, cake.spots.x[spot], cake.spots.y[spot], false) ? fanOf[breath] | GUEST : fanOf[breath];
        }

        int wayBetween(int place, int other) {
            return Math.abs(cake.places.x[place] - cake.places.x[other])
                + Math.abs(cake.places.y[place] - cake.places.y[other]);
        }
    }

    /** The moment that is now, those that can be undone to, and the images. */
    private static final class Past {
        private static final int MOST_ACTS = 20;
        private static final int MOST_IMAGES = 3;

        private int now;
        private final int[] before = new int[MOST_ACTS];
        private int acts;
        private final int[] images = new int[MOST_IMAGES];
        private int imageCount;

        void begin(int moment) {
            now = moment;
            acts = 0;
            imageCount = 0;
        }

        void act(int then) {
            if (acts >= MOST_ACTS) {
                System.arraycopy(before, 1, before, 0, MOST_ACTS - 1);
                acts = MOST_ACTS - 1;
            }
            before[acts] = now;
            acts++;
            now = then;
        }

        boolean takeBack() {
            if (acts <= 0) {
                return false;
            }
            acts--;
            now = before[acts];
            return true;
        }

        int keepImage() {
            if (imageCount >= MOST_IMAGES) {
                return NONE;
            }
            images[imageCount] = now;
            imageCount++;
            return imageCount - 1;
        }

        boolean returnTo(int image) {
            if (image < 0 || image >= imageCount) {
                return false;
            }
            now = images[image];
            acts = 0;
            return true;
        }
    }

    /** Some breaths' fans, each unlike one once, by its first breath. */
    private static final class FanList {
        private final Board board;
        private final int[] fans = new int[MOST_BREATHS];
        private final int[] firsts = new int[MOST_BREATHS];
        private int count;
        private final int[] listedIn = new int[2 * Board.SETS];
        private int listings;

        FanList(Board board) {
            this.board = board;
        }

        private void start() {
            count = 0;
            listings++;
        }

        private void add(int breath, int fan) {
            if (listedIn[fan] != listings && count < fans.length) {
                listedIn[fan] = listings;
                fans[count] = fan;
                firsts[count] = breath;
                count++;
            }
        }

        /** Lists those of one place or person (its: true), or all but those; OF_ALL lists all. */
        void list(int sort, int which, boolean its) {
            start();
            for (int b = 0; b < board.breaths; b++) {
                int owner = sort == OF_PLACE ? board.placeOf(b) : board.personOf(b);
                if (sort == OF_ALL || (owner == which) == its) {
                    add(b, board.fanOf[b]);
                }
            }
        }

        void listWithGuest(int spot) {
            start();
            for (int b = 0; b < board.breaths; b++) {
                add(b, board.fanWithGuest(b, spot));
            }
        }
    }

    /** Goes from moment to moment by breaths, nearest first. */
    private static final class Search {
        private static final int UNKNOWN = -3;
        private static final int FAR = 1000000;
        private static final int ANY_CANDLE = 2 * Board.SETS - 1;
        // A trick one is out, lit or dazed, another one out or lit: 27 times 128, and twice that with a guest.
        private static final int MOST_MOMENTS = 3456;
        private static final int MOST_WITH_GUEST = 2 * MOST_MOMENTS;

        private final Board board;
        private final FanList list;
        private final int[] seen = new int[Board.MOMENTS_WITH_GUEST];
        private final int[] queue = new int[MOST_WITH_GUEST];
        private final int[] depth = new int[MOST_WITH_GUEST];
        private int tail;
        private final int[] toGo = new int[MOST_MOMENTS * MOST_PLACES];
        private final int[] byNext = new int[MOST_PLACES];
        private final int[] row = new int[MOST_MOMENTS];
        private int askedLaid;
        private int askedMoment;
        private int fewestAsked;
        private int teamAsked;
        private boolean rowAsked;

        Search(Board board) {
            this.board = board;
            list = new FanList(board);
        }

        /** What was found for a moment is kept as long as that moment, of that cake, is asked for. */
        private void turnTo(int moment) {
            if (askedLaid != board.laid || askedMoment != moment) {
                askedLaid = board.laid;
                askedMoment = moment;
                fewestAsked = UNKNOWN;
                teamAsked = UNKNOWN;
                rowAsked = false;
            }
        }

        int fewestFrom(int moment) {
            turnTo(moment);
            if (fewestAsked == UNKNOWN) {
                fewestAsked = fewestOf(moment, OF_ALL, NONE);
            }
            return fewestAsked;
        }

        int fewestOf(int moment, int sort, int which) {
            list.list(sort, which, true);
            return distance(moment, ANY_CANDLE);
        }

        int fewestWithout(int moment, int sort, int which) {
            list.list(sort, which, false);
            return distance(moment, ANY_CANDLE);
        }

        int fewestWithoutCandle(int moment, int c) {
            list.list(OF_ALL, NONE, true);
            board.missing = 1 << c;
            int found = distance(board.without(moment, c), ANY_CANDLE);
            board.missing = 0;
            return found;
        }

        int fewestWithGuest(int moment, int spot) {
            board.seatGuest(spot);
            list.listWithGuest(spot);
            return distance(moment + Board.MOMENTS, ANY_CANDLE);
        }

        int soonestOut(int moment, int c) {
            list.list(OF_ALL, NONE, true);
            return distance(moment, 1 << c);
        }

        /** The fewest breaths of the list behind which none of these candles burns. */
        private int distance(int start, int candles) {
            forget();
            note(start, 0);
            if ((board.burningIn(start) & candles) == 0) {
                return 0;
            }
            for (int head = 0; head < tail && head < queue.length; head++) {
                for (int f = 0; f < list.count; f++) {
                    int then = board.behind(queue[head], list.fans[f]);
                    if (seen[then] == 0) {
                        note(then, depth[head] + 1);
                        if ((board.burningIn(then) & candles) == 0) {
                            return depth[head] + 1;
                        }
                    }
                }
            }
            return NEVER;
        }

        private void forget() {
            for (int i = 0; i < tail; i++) {
                seen[queue[i]] = 0;
            }
            tail = 0;
        }

        private void note(int moment, int breaths) {
            if (tail < queue.length) {
                queue[tail] = moment;
                depth[tail] = breaths;
                tail++;
                seen[moment] = tail;
            }
        }

        /** The i-th breath of the row; i is below its length. */
        int rowAt(int moment, int i) {
            turnTo(moment);
            if (!rowAsked) {
                findRow(moment);
                rowAsked = true;
            }
            return i >= 0 && i < row.length ? row[i] : NONE;
        }

        private void findRow(int moment) {
            int length = fewestOf(moment, OF_ALL, NONE);
            if (length == NEVER) {
                return;
            }
            markWays(length);
            int at = 0;
            for (int i = 0; i < length && i < row.length; i++) {
                int f = firstOnWay(at);
                if (f == NONE) {
                    return;
                }
                row[i] = list.firsts[f];
                at = seen[board.behind(queue[at], list.fans[f])] - 1;
            }
        }

        /** Marks, from the end on, from which of the moments seen the end can still be reached in time. */
        private void markWays(int length) {
            int goal = Math.min(tail, MOST_MOMENTS) - 1;
            for (int i = goal; i >= 0; i--) {
                toGo[i] = FAR;
                if (i == goal || depth[i] < length && firstOnWay(i) != NONE) {
                    toGo[i] = 0;
                }
            }
        }

        private int firstOnWay(int i) {
            for (int f = 0; f < list.count; f++) {
                int next = seen[board.behind(queue[i], list.fans[f])] - 1;
                if (next > i && depth[next] == depth[i] + 1 && toGo[next] == 0) {
                    return f;
                }
            }
            return NONE;
        }

        int leastWay(int moment, int person, int place) {
            int length = fewestOf(moment, OF_PERSON, person);
            if (length == NEVER) {
                return NEVER;
            }
            int goal = Math.min(tail, MOST_MOMENTS) - 1;
            for (int i = goal; i >= 0; i--) {
                if (i < goal && depth[i] < length) {
                    findWaysFrom(i, person);
                } else {
                    setWaysFrom(i, i == goal ? 0 : FAR);
                }
            }
            return toGo[place];
        }

        private void setWaysFrom(int i, int way) {
            for (int place = 0; place < MOST_PLACES; place++) {
                toGo[i * MOST_PLACES + place] = way;
            }
        }

        /** From each place: the least way there still is at the i-th moment seen. */
        private void findWaysFrom(int i, int person) {
            int places = board.cake.places.count;
            for (int next = 0; next < places; next++) {
                byNext[next] = leastWayBehind(i, person, next);
            }
            for (int place = 0; place < places; place++) {
                int least = FAR;
                for (int next = 0; next < places; next++) {
                    least = Math.min(least, board.wayBetween(place, next) + byNext[next]);
                }
                toGo[i * MOST_PLACES + place] = least;
            }
        }

        private int leastWayBehind(int i, int person, int place) {
            int least = FAR;
            for (int way = 0; way < WAYS; way++) {
                int fan = board.fanOf[board.breathBy(person, place, way)];
                int next = seen[board.behind(queue[i], fan)] - 1;
                if (next > i && depth[next] == depth[i] + 1) {
                    least = Math.min(least, toGo[next * MOST_PLACES + place]);
                }
            }
            return least;
        }

        /** The fewest people, of like ones the least bits, whose breaths, one each, can put out all. */
        int teamFrom(int moment) {
            turnTo(moment);
            if (teamAsked == UNKNOWN) {
                teamAsked = findTeam(moment);
            }
            return teamAsked;
        }

        private int findTeam(int moment) {
            if (moment == 0) {
                return 0;
            }
            // For each moment, seen holds the teams that can have led to it, as bits; the team of nobody is bit 0.
            forget();
            note(moment, 0);
            seen[moment] = 1;
            int people = board.cake.people;
            for (int members = 1; members <= people; members++) {
                for (int team = 1; team < 1 << people; team++) {
                    if (Integer.bitCount(team) == members && canPutOut(team)) {
                        return team;
                    }
                }
            }
            return NEVER;
        }

        private boolean canPutOut(int team) {
            for (int last = 0; last < board.cake.people; last++) {
                if ((team >> last & 1) != 0) {
                    list.list(OF_PERSON, last, true);
                    blowLast(team ^ 1 << last, team);
                }
            }
            return (seen[0] >> team & 1) != 0;
        }

        private void blowLast(int others, int team) {
            int known = tail;
            for (int i = 0; i < known; i++) {
                if ((seen[queue[i]] >> others & 1) != 0) {
                    for (int f = 0; f < list.count; f++) {
                        int then = board.behind(queue[i], list.fans[f]);
                        int teams = seen[then];
                        if (teams == 0) {
                            note(then, 0);
                        }
                        seen[then] = teams | 1 << team;
                    }
                }
            }
        }

        /** The fewest that can burn behind just n breaths. */
        int fewestBurning(int moment, int n) {
            list.list(OF_ALL, NONE, true);
            forget();
            // Each round makes of all moments that can be now all that can be next; depth lends its row for them.
            int[] here = queue;
            int[] there = depth;
            int count = 1;
            here[0] = moment;
            seen[moment] = 1;
            for (int round = 2; round <= n + 1; round++) {
                int next = nextRound(here, count, there, round);
                int[] other = here;
                here = there;
                there = other;
                count = next;
            }
            Arrays.fill(seen, 0);
            int least = MOST_CANDLES;
            for (int i = 0; i < count; i++) {
                least = Math.min(least, board.countIn(here[i]));
            }
            return least;
        }

        private int nextRound(int[] here, int count, int[] there, int round) {
            int next = 0;
            for (int i = 0; i < count; i++) {
                for (int f = 0; f < list.count; f++) {
                    int then = board.behind(here[i], list.fans[f]);
                    if (seen[then] != round && next < there.length) {
                        seen[then] = round;
                        there[next] = then;
                        next++;
                        if (then == 0) {
                            // None burns, and none will: no other moment can do better from here on.
                            there[0] = 0;
                            return 1;
                        }
                    }
                }
            }
            return next;
        }
    }

    /** What can be hoped for in up to three breaths, in parts of outOf(n), which are whole numbers then. */
    private static final class Odds {
        private static final int UNKNOWN = -1;
        private static final int KEPT = 2;

        private final Board board;
        private int laid;
        private final int[][] chances = new int[KEPT][Board.MOMENTS];
        private final int[][] means = new int[KEPT][Board.MOMENTS];
        private final int[][] worth = new int[MOST_CHANCE][MOST_BREATHS];
        private final int[] goesBack = new int[MOST_BREATHS];
        private final int[] goesStraight = new int[MOST_BREATHS];
        private final int[] goesOn = new int[MOST_BREATHS];
        private final int[] firsts = new int[MOST_BREATHS];
        private int choices;
        private int backWeight;
        private int straightWeight;
        private int onWeight;

        Odds(Board board) {
            this.board = board;
        }

        int outOf(int n) {
            prepare();
            return partsIn(n);
        }

        int likeliness(int moment, int n) {
            prepare();
            return likelinessOf(moment, n);
        }

        int meanLeft(int moment, int n) {
            prepare();
            return meanOf(moment, n);
        }

        int likeliestBreath(int moment, int n) {
            int most = likeliness(moment, n);
            weighChances(moment, n);
            for (int i = 0; i < choices; i++) {
                if (total(i, n) == most) {
                    return firsts[i];
                }
            }
            return NONE;
        }

        private void prepare() {
            if (laid == board.laid) {
                return;
            }
            laid = board.laid;
            for (int i = 0; i < KEPT; i++) {
                Arrays.fill(chances[i], UNKNOWN);
                Arrays.fill(means[i], UNKNOWN);
            }
            backWeight = board.cake.shaky[0];
            straightWeight = board.cake.shaky[1];
            onWeight = board.cake.shaky[2];
            findChoices();
        }

        /** Breaths that can go to like fans are one choice: its number is the first one's. */
        private void findChoices() {
            choices = 0;
            for (int b = 0; b < board.breaths; b++) {
                int way = board.wayOf(b);
                int still = b - way;
                goesBack[choices] = backWeight == 0 ? 0 : board.unlikeOf[still + (way + WAYS - 1) % WAYS];
                goesStraight[choices] = straightWeight == 0 ? 0 : board.unlikeOf[b];
                goesOn[choices] = onWeight == 0 ? 0 : board.unlikeOf[still + (way + 1) % WAYS];
                if (isNewChoice()) {
                    firsts[choices] = b;
                    choices++;
                }
            }
        }

        private boolean isNewChoice() {
            for (int i = 0; i < choices; i++) {
                if (goesStraight[i] == goesStraight[choices] && goesBack[i] == goesBack[choices]
                    && goesOn[i] == goesOn[choices]) {
                    return false;
                }
            }
            return true;
        }

        private int partsIn(int n) {
            int parts = 1;
            for (int i = 0; i < n; i++) {
                parts *= backWeight + straightWeight + onWeight;
            }
            return parts;
        }

        private int total(int choice, int n) {
            int[] behind = worth[n - 1];
            return backWeight * behind[goesBack[choice]] + straightWeight * behind[goesStraight[choice]]
                + onWeight * behind[goesOn[choice]];
        }

        private int likelinessOf(int moment, int n) {
            if (moment == 0) {
                return partsIn(n);
            }
            if (n <= 0 || n > MOST_CHANCE) {
                return 0;
            }
            if (n <= KEPT && chances[n - 1][moment] != UNKNOWN) {
                return chances[n - 1][moment];
            }
            weighChances(moment, n);
            int most = 0;
            for (int i = 0; i < choices; i++) {
                most = Math.max(most, total(i, n));
            }
            if (n <= KEPT) {
                chances[n - 1][moment] = most;
            }
            return most;
        }

        private void weighChances(int moment, int n) {
            for (int f = 0; f < board.unlikeCount; f++) {
                worth[n - 1][f] = likelinessOf(board.behind(moment, board.unlike[f]), n - 1);
            }
        }

        private int meanOf(int moment, int n) {
            int burning = board.countIn(moment);
            if (n <= 0 || n > MOST_CHANCE || burning == 0) {
                return burning;
            }
            if (n <= KEPT && means[n - 1][moment] != UNKNOWN) {
                return means[n - 1][moment];
            }
            weighMeans(moment, n);
            int least = burning * partsIn(n);
            for (int i = 0; i < choices; i++) {
                least = Math.min(least, total(i, n));
            }
            if (n <= KEPT) {
                means[n - 1][moment] = least;
            }
            return least;
        }

        private void weighMeans(int moment, int n) {
            for (int f = 0; f < board.unlikeCount; f++) {
                worth[n - 1][f] = meanOf(board.behind(moment, board.unlike[f]), n - 1);
            }
        }
    }

    /** Which breaths can have left what was seen. */
    private static final class Traces {
        private final Board board;
        private final int[] rows = new int[MOST_BREATHS];

        Traces(Board board) {
            this.board = board;
        }

        int count(int n) {
            findRows(n);
            int sum = 0;
            for (int f = 0; f < board.unlikeCount; f++) {
                sum += board.sharers[f] * rows[f];
            }
            return sum;
        }

        /** The first breath of the i-th row of n, or NONE. */
        int firstBreath(int n, int i) {
            if (i < 0) {
                return NONE;
            }
            findRows(n);
            int ahead = i;
            for (int b = 0; b < board.breaths; b++) {
                ahead -= rows[board.unlikeOf[b]];
                if (ahead < 0) {
                    return b;
                }
            }
            return NONE;
        }

        /** For each unlike fan: how many rows of n begin with a breath that has it. */
        private void findRows(int n) {
            int all = board.allBurning();
            for (int f = 0; f < board.unlikeCount; f++) {
                int then = board.behind(all, board.unlike[f]);
                rows[f] = n == 1 ? isLeft(then) : countLast(then);
            }
        }

        private int countLast(int moment) {
            int sum = 0;
            for (int f = 0; f < board.unlikeCount; f++) {
                sum += board.sharers[f] * isLeft(board.behind(moment, board.unlike[f]));
            }
            return sum;
        }

        private int isLeft(int moment) {
            return board.burningIn(moment) == board.cake.left ? 1 : 0;
        }
    }
}
