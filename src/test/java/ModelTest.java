import java.util.ArrayList;
import java.util.HashMap;
import java.util.List;
import java.util.Map;
import java.util.Random;
import java.util.Set;
import java.util.TreeSet;

/** All promises: random cakes, whole and spoilt texts, random runs of calls, each answer against the plain model. */
public final class ModelTest {
    private static final int CALLS = 49;

    private final Random random;
    private final ThreeBreaths x = new ThreeBreaths();
    private Model m;
    private Model.State now;
    private final List<Model.State> past = new ArrayList<>();
    private final List<Model.State> images = new ArrayList<>();
    private int trouble = 0;
    private int fault = 0;
    private int where = -1;
    private final String name;

    private ModelTest(long seed) {
        random = new Random(seed);
        name = "seed " + seed + ": ";
    }

    public static void main(String[] args) {
        int runs = args.length > 0 ? Integer.parseInt(args[0]) : 400;
        long first = args.length > 1 ? Long.parseLong(args[1]) : 1;
        for (long seed = first; seed < first + runs; seed++) {
            new ModelTest(seed).run(seed % 25 == 0);
        }
        for (long seed = first; seed < first + 4 * runs; seed++) {
            new ModelTest(seed).spoiltTexts();
        }
        Check.end("ModelTest");
    }

    private void run(boolean large) {
        int cakes = large ? 1 : 1 + random.nextInt(2);
        for (int i = 0; i < cakes; i++) {
            newCake(text(large));
            if (!large) {
                sweep();
            }
            int calls = large ? 40 : 80;
            for (int call = 0; call < calls; call++) {
                randomCall(large);
            }
            if (!large) {
                sweep();
            }
            if (random.nextInt(3) == 0) {
                spoil(text(false));
            }
        }
    }

    /** What is left out, or put there, of each sort in turn. */
    private void sweep() {
        for (int c = 0; m != null && c < m.candles.size(); c++) {
            due("less(0," + c + ")", x.less(0, c), m.less(now, 0, c), 0);
            due("soonest(" + c + ")", x.soonest(c), m.soonest(now, c), 0);
        }
        for (int s = 0; m != null && s < m.spots.size(); s++) {
            due("more(" + s + ")", x.more(s), m.more(now, s), 0);
        }
        due("team()", x.team(), m.team(now), 0);
    }

    private void spoiltTexts() {
        for (int i = 0; i < 10; i++) {
            spoil(text(random.nextInt(4) == 0));
        }
    }

    // ---- texts

    private int below(int n) {
        return random.nextInt(n);
    }

    private String blanks() {
        return below(4) == 0 ? " ".repeat(1 + below(2)) : "";
    }

    private String point(int edge) {
        return "at " + blanks() + below(edge + 1) + blanks() + "," + blanks() + below(edge + 1);
    }

    private String text(boolean large) {
        int edge = below(3) == 0 ? 20 : 3 + below(8);
        List<String> lines = new ArrayList<>();
        int candles = large ? 7 + below(4) : 1 + below(5);
        int tricks = 0;
        for (int i = 0; i < candles; i++) {
            String kind = new String[] {"plain", "tall", "again", "again", "trick", "plain"}[below(6)];
            if (kind.equals("trick") && ++tricks > 3) {
                kind = "plain";
            }
            lines.add("candle c" + letter(i) + " " + point(edge) + " " + kind);
        }
        int places = large ? 1 + below(3) : 1 + below(2);
        for (int i = 0; i < places; i++) {
            lines.add(below(lines.size() + 1), "place p" + letter(i) + " " + point(edge));
        }
        int people = 1 + below(large ? 2 : below(3) == 0 ? 4 : 2);
        for (int i = 0; i < people; i++) {
            int reach = below(3) == 0 ? 1 + below(30) : 3 + below(edge + 4);
            int spread = below(3) == 0 ? below(31) : below(12);
            lines.add(below(lines.size() + 1), "person q" + letter(i) + " reach " + reach + " spread " + spread);
        }
        int spots = below(5);
        for (int i = 0; i < spots; i++) {
            lines.add(below(lines.size() + 1), "spot s" + letter(i) + " " + point(edge));
        }
        int near = below(4) == 0 ? below(21) : below(4);
        lines.add(below(lines.size() + 1), "cake near " + near + " wax " + (1 + below(9)));
        if (below(2) == 0) {
            int[] w = {below(4), below(4), 1 + below(3)};
            if (below(5) == 0) {
                w = new int[] {below(10), 1 + below(9), below(10)};
            }
            lines.add(below(lines.size() + 1), "shaky " + w[0] + "," + w[1] + "," + w[2]);
        }
        if (below(4) != 0) {
            lines.add(left(candles));
        }
        return blanks() + String.join(blanks() + ";" + blanks(), lines) + blanks();
    }

    private static char letter(int i) {
        return (char) ('a' + i);
    }

    private String left(int candles) {
        List<String> names = new ArrayList<>();
        for (int i = 0; i < candles; i++) {
            if (below(3) == 0) {
                names.add(below(names.size() + 1), "c" + letter(i));
            }
        }
        return "left " + (names.isEmpty() ? "none" : String.join(blanks() + "," + blanks(), names));
    }

    private String spoiled(String text) {
        StringBuilder s = new StringBuilder(text);
        int times = 1 + below(2);
        for (int i = 0; i < times && s.length() > 0; i++) {
            int at = below(s.length());
            switch (below(9)) {
                case 0 -> s.deleteCharAt(at);
                case 1 -> s.insert(at, (char) below(256));
                case 2 -> s.setCharAt(at, " ;,a09z".charAt(below(7)));
                case 3 -> s.setLength(at);
                case 4 -> s.append(";").append(text.substring(below(text.length())));
                case 5 -> s.append(';').append(pick(text.split(";")));
                case 6 -> replaceToken(s, at);
                case 7 -> s.insert(0, pick(text.split(";")) + ";");
                default -> dropLine(s);
            }
        }
        return s.length() > 900 ? s.substring(0, 900) : s.toString();
    }

    private String pick(String[] of) {
        return of[below(of.length)];
    }

    private void dropLine(StringBuilder s) {
        List<String> lines = new ArrayList<>(List.of(s.toString().split(";")));
        lines.remove(below(lines.size()));
        s.setLength(0);
        s.append(String.join(";", lines));
    }

    private void replaceToken(StringBuilder s, int at) {
        String[] words = {"cake", "candle", "place", "spot", "person", "shaky", "left", "none", "near", "wax", "at", "reach", "spread",
            "plain", "tall", "again", "trick", "ca", "cb", "pa", "qa", "sa", "0", "1", "20", "21", "30", "31", "9", "10", "999", "1000",
            "abcdefgh", "abcdefghi", ";", ",", "00", "007"};
        int begin = at;
        while (begin > 0 && Character.isLetterOrDigit(s.charAt(begin - 1))) {
            begin--;
        }
        int end = at;
        while (end < s.length() && Character.isLetterOrDigit(s.charAt(end))) {
            end++;
        }
        s.replace(begin, end, pick(words));
    }

    private void spoil(String text) {
        newCake(spoiled(text));
    }

    private void newCake(String text) {
        if (text.length() > 900) {
            return;
        }
        TextModel read = new TextModel(text);
        int got = Check.cake(x, text);
        String what = name + "cake of \"" + text + "\"";
        fault = read.fault;
        where = read.where;
        if (read.fault != 0) {
            trouble = 4;
            Check.due(what, got, -1);
        } else {
            trouble = 0;
            m = read.model;
            now = m.start();
            past.clear();
            images.clear();
            Check.due(what, got, m.breaths());
        }
        Check.due("fault() of " + what, x.fault(), fault);
        Check.due("where() of " + what, x.where(), fault == 0 ? -1 : where);
        Check.due("trouble() of " + what, x.trouble(), trouble);
    }

    // ---- calls

    /** Mostly one of 0 .. n - 1, at times beside them or far off. */
    private int index(int n) {
        int r = below(40);
        if (r == 0) {
            return Integer.MIN_VALUE + below(3);
        }
        if (r == 1) {
            return Integer.MAX_VALUE - below(3);
        }
        if (r < 6 || n <= 0) {
            return below(2) == 0 ? -1 : n;
        }
        return below(n);
    }

    private static boolean in(int i, int n) {
        return i >= 0 && i < n;
    }

    private void due(String call, long got, long want, int why) {
        trouble = why;
        Check.due(name + call, got, want);
        Check.due(name + "trouble() behind " + call, x.trouble(), why);
        Check.due(name + "where() behind " + call, x.where(), -1);
        Check.due(name + "fault() behind " + call, x.fault(), fault);
    }

    /** An answer, or the refusal by 1 if it isn't so. */
    private void due(String call, long got, boolean ok, java.util.function.LongSupplier want) {
        due(call, got, ok ? want.getAsLong() : -1, ok ? 0 : 1);
    }

    private void randomCall(boolean large) {
        if (m == null) {
            return;
        }
        int c = index(m.candles.size());
        int p = index(m.places.size());
        int q = index(m.people.size());
        int b = index(m.breaths());
        boolean isC = in(c, m.candles.size());
        boolean isP = in(p, m.places.size());
        boolean isQ = in(q, m.people.size());
        boolean isB = in(b, m.breaths());
        int call = below(4) == 0 ? 11 + below(5) : below(CALLS);
        switch (call) {
            case 0, 1 -> {
                int what = index(3);
                due("candle(" + c + "," + what + ")", x.candle(c, what), isC && in(what, 3), () -> candle(c, what));
            }
            case 2, 3 -> due("fan(" + b + ")", x.fan(b), isB, () -> Model.bits(m.fan(b)));
            case 4 -> {
                int way = index(16);
                due("breath(" + q + "," + p + "," + way + ")", x.breath(q, p, way), isQ && isP && in(way, 16), () -> m.number(q, p, way));
            }
            case 5 -> {
                int what = index(3);
                due("breathOf(" + b + "," + what + ")", x.breathOf(b, what), isB && in(what, 3), () -> m.parts(b)[what]);
            }
            case 6 -> due("fans()", x.fans(), true, this::fans);
            case 7 -> due("spared()", x.spared(), true, this::spared);
            case 8 -> due("lights(" + c + ",false)", x.lights(c, false), isC, () -> lights(c, false));
            case 9 -> due("lights(" + c + ",true)", x.lights(c, true), isC, () -> lights(c, true));
            case 10 -> due("gain(" + b + ")", x.gain(b), isB ? m.gain(now, b) : -100, isB ? 0 : 1);
            case 11, 12 -> blow(b, isB);
            case 13 -> blow(x.greedy(), true);
            case 14 -> light(c, isC);
            case 15 -> act(below(8));
            case 16 -> due("greedy()", x.greedy(), m.greedy(now), 0);
            case 17 -> due("fewest()", x.fewest(), m.fewest(now, m.everyBreath()), 0);
            case 18, 19, 20 -> row();
            case 21 -> due("from(" + p + ")", x.from(p), isP, () -> m.fewest(now, m.some(s -> s[1] == p)));
            case 22 -> due("by(" + q + ")", x.by(q), isQ, () -> m.fewest(now, m.some(s -> s[0] == q)));
            case 23 -> {
                int f = m.fewest(now, m.everyBreath());
                due("inTime()", x.inTime(), f >= 0 && f <= m.wax ? 1 : 0, 0);
            }
            case 24, 25 -> due("walk(" + q + "," + p + ")", x.walk(q, p), isQ && isP, () -> m.walk(now, q, p));
            case 26 -> {
                int team = m.team(now);
                due("each()", x.each(), team < 0 ? -2 : Integer.bitCount(team), 0);
            }
            case 27 -> due("team()", x.team(), m.team(now), 0);
            case 28 -> due("greedyEnd()", x.greedyEnd(), m.greedyEnd(now), 0);
            case 29 -> due("soonest(" + c + ")", x.soonest(c), isC, () -> m.soonest(now, c));
            case 30, 31 -> {
                int n = index(10);
                due("few(" + n + ")", x.few(n), in(n, 10) ? m.few(now, n) : -1, in(n, 10) ? 0 : 2);
            }
            case 32, 33, 34, 35 -> odds(large);
            case 36, 37 -> fits();
            case 38, 39 -> {
                int spot = index(m.spots.size());
                due("more(" + spot + ")", x.more(spot), in(spot, m.spots.size()), () -> m.more(now, spot));
            }
            case 40, 41, 42 -> {
                int sort = index(3);
                int i = sort == 0 ? c : sort == 1 ? p : q;
                boolean ok = sort == 0 ? isC : sort == 1 ? isP : sort == 2 && isQ;
                due("less(" + sort + "," + i + ")", x.less(sort, i), ok, () -> m.less(now, sort, i));
            }
            case 43 -> {
                boolean room = images.size() < 3;
                due("image()", x.image(), room ? images.size() : -1, room ? 0 : 3);
                if (room) {
                    images.add(now);
                }
            }
            case 44 -> back();
            case 45 -> led();
            case 46, 47 -> sizes();
            default -> {
                due("burning()", x.burning(), Model.bits(now.burning()), 0);
                due("dazed()", x.dazed(), Model.bits(now.dazed()), 0);
            }
        }
    }

    private long candle(int c, int what) {
        Model.Candle candle = m.candles.get(c);
        return what == 0 ? candle.x() : what == 1 ? candle.y() : List.of("plain", "tall", "again", "trick").indexOf(candle.kind());
    }

    private long fans() {
        Set<Integer> unlike = new TreeSet<>();
        for (int b = 0; b < m.breaths(); b++) {
            unlike.add(Model.bits(m.fan(b)));
        }
        unlike.remove(0);
        return unlike.size();
    }

    private long spared() {
        int bits = (1 << m.candles.size()) - 1;
        for (int b = 0; b < m.breaths(); b++) {
            bits &= ~Model.bits(m.fan(b));
        }
        return bits;
    }

    private long lights(int c, boolean it) {
        int bits = 0;
        for (int o = 0; o < m.candles.size(); o++) {
            if (o != c && m.areNear(c, o) && m.is(it ? c : o, "again")) {
                bits |= 1 << o;
            }
        }
        return bits;
    }

    private void keep() {
        past.add(now);
        if (past.size() > 20) {
            past.remove(0);
        }
    }

    private void look(String behind) {
        Check.due(name + "burning() behind " + behind, x.burning(), Model.bits(now.burning()));
        Check.due(name + "dazed() behind " + behind, x.dazed(), Model.bits(now.dazed()));
        Check.due(name + "acts behind " + behind, x.size(8), past.size());
    }

    private void blow(int b, boolean isB) {
        if (isB) {
            keep();
            now = m.blow(now, b);
        }
        due("blow(" + b + ")", x.blow(b), isB ? now.burning().size() : -1, isB ? 0 : 1);
        look("blow");
    }

    private void light(int c, boolean isC) {
        boolean burns = isC && now.burning().contains(c);
        boolean ok = isC && !burns;
        if (ok) {
            keep();
            Set<Integer> burning = new TreeSet<>(now.burning());
            burning.add(c);
            now = new Model.State(burning, now.dazed());
        }
        due("light(" + c + ")", x.light(c) ? 1 : 0, ok ? 1 : 0, ok ? 0 : burns ? 5 : 1);
        look("light");
    }

    private void act(int which) {
        if (which == 0) {
            keep();
            now = m.start();
            due("all()", x.all() ? 1 : 0, 1, 0);
            look("all");
            return;
        }
        boolean ok = !past.isEmpty();
        if (ok) {
            now = past.remove(past.size() - 1);
        }
        due("undo()", x.undo() ? 1 : 0, ok ? 1 : 0, ok ? 0 : 6);
        look("undo");
    }

    private void row() {
        List<Integer> row = m.row(now);
        if (row == null) {
            for (int i = -2; i <= 2; i++) {
                due("row(" + i + ")", x.row(i), -1, i < 0 ? 1 : 6);
            }
            return;
        }
        for (int i = -1; i <= row.size(); i++) {
            boolean ok = in(i, row.size());
            due("row(" + i + ")", x.row(i), ok ? row.get(i) : -1, ok ? 0 : 1);
        }
    }

    private void odds(boolean large) {
        int n = index(large ? 2 : 3) + 1;
        boolean ok = n >= 1 && n <= 3;
        if (large && n == 3) {
            return;
        }
        Model.Part chance = ok ? m.chance(now, n) : null;
        Model.Part mean = ok ? m.content(now, n) : null;
        int why = ok ? 0 : 2;
        due("chance(" + n + ",false)", x.chance(n, false), ok ? chance.upper().longValue() : -1, why);
        due("chance(" + n + ",true)", x.chance(n, true), ok ? chance.lower().longValue() : -1, why);
        due("content(" + n + ",false)", x.content(n, false), ok ? mean.upper().longValue() : -1, why);
        due("content(" + n + ",true)", x.content(n, true), ok ? mean.lower().longValue() : -1, why);
        due("best(" + n + ")", x.best(n), ok ? m.best(now, n) : -1, why);
    }

    private void fits() {
        int n = index(2) + 1;
        int why = n != 1 && n != 2 ? 2 : m.left == null ? 6 : 0;
        List<Integer> rows = why == 0 ? m.fits(n) : List.of();
        due("fits(" + n + ")", x.fits(n), why == 0 ? rows.size() : -1, why);
        for (int k = 0; k < 4; k++) {
            int i = index(rows.size());
            boolean ok = why == 0 && in(i, rows.size());
            due("fitAt(" + n + "," + i + ")", x.fitAt(n, i), ok ? rows.get(i) : -1, ok ? 0 : why != 0 ? why : 1);
        }
    }

    private void back() {
        int i = index(images.size());
        boolean ok = in(i, images.size());
        if (ok) {
            now = images.get(i);
            past.clear();
        }
        due("back(" + i + ")", x.back(i) ? 1 : 0, ok ? 1 : 0, ok ? 0 : 1);
        look("back");
    }

    private void led() {
        List<Integer> out = new ArrayList<>();
        for (int c = 0; c < m.candles.size(); c++) {
            if (!now.burning().contains(c)) {
                out.add(c);
            }
        }
        int i = index(out.size());
        int before = x.trouble();
        Check.due(name + "led(" + i + ")", Check.led(x, i), in(i, out.size()) ? out.get(i) : -9);
        Check.due(name + "trouble() behind led", x.trouble(), before);
    }

    private void sizes() {
        Map<Integer, Integer> want = new HashMap<>();
        want.put(0, m.candles.size());
        want.put(1, m.places.size());
        want.put(2, m.spots.size());
        want.put(3, m.people.size());
        want.put(4, m.near);
        want.put(5, m.wax);
        want.put(6, m.shaky == null ? 0 : 1);
        want.put(7, m.left == null ? -2 : Model.bits(m.left));
        want.put(8, past.size());
        want.put(9, images.size());
        want.put(10, 0);
        int what = index(11);
        int before = x.trouble();
        Check.due(name + "size(" + what + ")", x.size(what), want.getOrDefault(what, -1));
        Check.due(name + "trouble() behind size", x.trouble(), before);
    }
}
