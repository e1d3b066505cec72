import java.math.BigInteger;
import java.util.ArrayList;
import java.util.HashMap;
import java.util.HashSet;
import java.util.List;
import java.util.Map;
import java.util.Set;
import java.util.TreeSet;
import java.util.function.Predicate;

/** The document's words once more, as plainly as they can be run: slow, and made apart from the class. */
final class Model {
    record Candle(int x, int y, String kind) {
    }

    record Point(int x, int y) {
    }

    record Person(int reach, int spread) {
    }

    record State(Set<Integer> burning, Set<Integer> dazed) {
    }

    record Part(BigInteger upper, BigInteger lower) {
        static Part of(long whole) {
            return new Part(BigInteger.valueOf(whole), BigInteger.ONE);
        }

        Part times(Part o) {
            return lowest(upper.multiply(o.upper), lower.multiply(o.lower));
        }

        Part plus(Part o) {
            return lowest(upper.multiply(o.lower).add(o.upper.multiply(lower)), lower.multiply(o.lower));
        }

        static Part lowest(BigInteger up, BigInteger low) {
            BigInteger g = up.gcd(low);
            return new Part(up.divide(g), low.divide(g));
        }

        int compare(Part o) {
            return upper.multiply(o.lower).compareTo(o.upper.multiply(lower));
        }
    }

    private static final int[][] HALF = {{1, 0}, {2, 1}, {1, 1}, {1, 2}, {0, 1}, {-1, 2}, {-1, 1}, {-2, 1}};

    final List<Candle> candles = new ArrayList<>();
    final List<Point> places = new ArrayList<>();
    final List<Point> spots = new ArrayList<>();
    final List<Person> people = new ArrayList<>();
    int near;
    int wax;
    int[] shaky;
    Set<Integer> left;

    private final Map<Integer, Set<Integer>> fans = new HashMap<>();
    private final Map<List<Object>, Part> known = new HashMap<>();

    Model copy() {
        Model m = new Model();
        m.candles.addAll(candles);
        m.places.addAll(places);
        m.spots.addAll(spots);
        m.people.addAll(people);
        m.near = near;
        m.wax = wax;
        m.shaky = shaky;
        m.left = left;
        return m;
    }

    static int bits(Set<Integer> set) {
        int bits = 0;
        for (int c : set) {
            bits |= 1 << c;
        }
        return bits;
    }

    int breaths() {
        return people.size() * places.size() * 16;
    }

    int number(int person, int place, int way) {
        return 16 * (places.size() * person + place) + way;
    }

    int[] parts(int breath) {
        for (int person = 0; person < people.size(); person++) {
            for (int place = 0; place < places.size(); place++) {
                int way = breath - number(person, place, 0);
                if (way >= 0 && way < 16) {
                    return new int[] {person, place, way};
                }
            }
        }
        throw new IllegalArgumentException();
    }

    Set<Integer> fan(int breath) {
        return fans.computeIfAbsent(breath, this::findFan);
    }

    private Set<Integer> findFan(int breath) {
        int[] parts = parts(breath);
        Person person = people.get(parts[0]);
        Point place = places.get(parts[1]);
        int sign = parts[2] < 8 ? 1 : -1;
        int wx = sign * HALF[parts[2] % 8][0];
        int wy = sign * HALF[parts[2] % 8][1];
        Set<Integer> in = new TreeSet<>();
        for (int c = 0; c < candles.size(); c++) {
            Candle candle = candles.get(c);
            int x = candle.x - place.x;
            int y = candle.y - place.y;
            int dot = x * wx + y * wy;
            int cross = wx * y - wy * x;
            int sum = x * x + y * y;
            if (candle.kind.equals("tall")) {
                sum *= 4;
            }
            boolean inCone = 10 * Math.abs(cross) <= person.spread * dot && dot > 0 && sum <= person.reach * person.reach;
            if (inCone || x == 0 && y == 0) {
                in.add(c);
            }
        }
        return in;
    }

    boolean areNear(int a, int b) {
        int x = candles.get(a).x - candles.get(b).x;
        int y = candles.get(a).y - candles.get(b).y;
        return x * x + y * y <= near * near;
    }

    boolean is(int c, String kind) {
        return candles.get(c).kind.equals(kind);
    }

    State start() {
        Set<Integer> all = new TreeSet<>();
        for (int c = 0; c < candles.size(); c++) {
            all.add(c);
        }
        return new State(all, new TreeSet<>());
    }

    State blow(State s, int breath) {
        Set<Integer> fan = fan(breath);
        Set<Integer> burning = new TreeSet<>();
        Set<Integer> dazed = new TreeSet<>();
        for (int c : s.burning) {
            if (!fan.contains(c)) {
                burning.add(c);
            } else if (is(c, "trick") && !s.dazed.contains(c)) {
                burning.add(c);
                dazed.add(c);
            }
        }
        Set<Integer> then = new TreeSet<>(burning);
        for (int c = 0; c < candles.size(); c++) {
            if (is(c, "again") && !burning.contains(c)) {
                for (int other : burning) {
                    if (areNear(c, other)) {
                        then.add(c);
                    }
                }
            }
        }
        return new State(then, dazed);
    }

    List<Integer> some(Predicate<int[]> wanted) {
        List<Integer> list = new ArrayList<>();
        for (int b = 0; b < breaths(); b++) {
            if (wanted.test(parts(b))) {
                list.add(b);
            }
        }
        return list;
    }

    List<Integer> everyBreath() {
        return some(p -> true);
    }

    /** How far each state that can come is from one that is wished, by relaxing until nothing changes. */
    private Map<State, Integer> distances(State from, List<Integer> breaths, Predicate<State> wished) {
        Map<State, Set<State>> next = new HashMap<>();
        List<State> open = new ArrayList<>();
        open.add(from);
        next.put(from, new HashSet<>());
        while (!open.isEmpty()) {
            State s = open.remove(open.size() - 1);
            for (int b : breaths) {
                State t = blow(s, b);
                next.get(s).add(t);
                if (!next.containsKey(t)) {
                    next.put(t, new HashSet<>());
                    open.add(t);
                }
            }
        }
        Map<State, Integer> far = new HashMap<>();
        for (State s : next.keySet()) {
            if (wished.test(s)) {
                far.put(s, 0);
            }
        }
        boolean changed = true;
        while (changed) {
            changed = false;
            for (State s : next.keySet()) {
                for (State t : next.get(s)) {
                    Integer d = far.get(t);
                    if (d != null && (!far.containsKey(s) || far.get(s) > d + 1)) {
                        far.put(s, d + 1);
                        changed = true;
                    }
                }
            }
        }
        return far;
    }

    int fewest(State s, List<Integer> breaths) {
        return distances(s, breaths, t -> t.burning.isEmpty()).getOrDefault(s, -2);
    }

    int soonest(State s, int c) {
        return distances(s, everyBreath(), t -> !t.burning.contains(c)).getOrDefault(s, -2);
    }

    List<Integer> row(State s) {
        Map<State, Integer> far = distances(s, everyBreath(), t -> t.burning.isEmpty());
        if (!far.containsKey(s)) {
            return null;
        }
        List<Integer> row = new ArrayList<>();
        State at = s;
        while (!at.burning.isEmpty()) {
            for (int b = 0; b < breaths(); b++) {
                State t = blow(at, b);
                if (far.containsKey(t) && far.get(t) == far.get(at) - 1) {
                    row.add(b);
                    at = t;
                    break;
                }
            }
        }
        return row;
    }

    int walk(State s, int person, int place) {
        List<Integer> own = some(p -> p[0] == person);
        Map<State, Integer> far = distances(s, own, t -> t.burning.isEmpty());
        return far.containsKey(s) ? walkOn(s, person, place, far, new HashMap<>()) : -2;
    }

    private int walkOn(State s, int person, int at, Map<State, Integer> far, Map<List<Object>, Integer> known) {
        if (s.burning.isEmpty()) {
            return 0;
        }
        List<Object> key = List.of(s, at);
        if (known.containsKey(key)) {
            return known.get(key);
        }
        int least = Integer.MAX_VALUE;
        for (int b : some(p -> p[0] == person)) {
            State t = blow(s, b);
            if (far.containsKey(t) && far.get(t) == far.get(s) - 1) {
                int to = parts(b)[1];
                int step = Math.abs(places.get(at).x - places.get(to).x) + Math.abs(places.get(at).y - places.get(to).y);
                least = Math.min(least, step + walkOn(t, person, to, far, known));
            }
        }
        known.put(key, least);
        return least;
    }

    /** Teams that can do it, as bits: every order of every choice is tried. */
    private void teams(State s, int used, Set<Integer> found, Set<List<Object>> done) {
        if (!done.add(List.of(s, used))) {
            return;
        }
        if (s.burning.isEmpty()) {
            found.add(used);
        }
        for (int b = 0; b < breaths(); b++) {
            int person = parts(b)[0];
            if ((used >> person & 1) == 0) {
                teams(blow(s, b), used | 1 << person, found, done);
            }
        }
    }

    int team(State s) {
        Set<Integer> found = new HashSet<>();
        teams(s, 0, found, new HashSet<>());
        int best = -2;
        for (int team : found) {
            int fewer = best == -2 ? -1 : Integer.compare(Integer.bitCount(team), Integer.bitCount(best));
            if (fewer < 0 || fewer == 0 && team < best) {
                best = team;
            }
        }
        return best;
    }

    int gain(State s, int breath) {
        return s.burning.size() - blow(s, breath).burning.size();
    }

    int greedy(State s) {
        int best = 0;
        for (int b = 1; b < breaths(); b++) {
            if (gain(s, b) > gain(s, best)) {
                best = b;
            }
        }
        return best;
    }

    int greedyEnd(State s) {
        State at = s;
        for (int i = 0; i < wax && gain(at, greedy(at)) > 0; i++) {
            at = blow(at, greedy(at));
        }
        return at.burning.size();
    }

    int few(State s, int n) {
        Set<State> can = new HashSet<>(Set.of(s));
        for (int i = 0; i < n; i++) {
            Set<State> then = new HashSet<>();
            for (State t : can) {
                for (int b = 0; b < breaths(); b++) {
                    then.add(blow(t, b));
                }
            }
            can = then;
        }
        int least = 99;
        for (State t : can) {
            least = Math.min(least, t.burning.size());
        }
        return least;
    }

    private Part weight(int i) {
        int[] w = shaky == null ? new int[] {0, 1, 0} : shaky;
        return Part.lowest(BigInteger.valueOf(w[i]), BigInteger.valueOf(w[0] + w[1] + w[2]));
    }

    private Part mixed(State s, int breath, int n, boolean content) {
        int[] p = parts(breath);
        Part sum = Part.of(0);
        for (int i = 0; i < 3; i++) {
            if (weight(i).upper.signum() != 0) {
                int went = number(p[0], p[1], Math.floorMod(p[2] + i - 1, 16));
                State t = blow(s, went);
                sum = sum.plus(weight(i).times(content ? content(t, n - 1) : chance(t, n - 1)));
            }
        }
        return sum;
    }

    Part chance(State s, int n) {
        if (s.burning.isEmpty()) {
            return Part.of(1);
        }
        if (n == 0) {
            return Part.of(0);
        }
        List<Object> key = List.of(s, n, "chance");
        if (!known.containsKey(key)) {
            Part most = Part.of(0);
            for (int b = 0; b < breaths(); b++) {
                Part p = mixed(s, b, n, false);
                most = p.compare(most) > 0 ? p : most;
            }
            known.put(key, most);
        }
        return known.get(key);
    }

    int best(State s, int n) {
        if (s.burning.isEmpty()) {
            return -2;
        }
        for (int b = 0; b < breaths(); b++) {
            if (mixed(s, b, n, false).compare(chance(s, n)) == 0) {
                return b;
            }
        }
        throw new IllegalStateException();
    }

    Part content(State s, int n) {
        Part least = Part.of(s.burning.size());
        if (n == 0) {
            return least;
        }
        List<Object> key = List.of(s, n, "content");
        if (!known.containsKey(key)) {
            for (int b = 0; b < breaths(); b++) {
                Part p = mixed(s, b, n, true);
                least = p.compare(least) < 0 ? p : least;
            }
            known.put(key, least);
        }
        return known.get(key);
    }

    /** The first breaths of all rows that fit, in order. */
    List<Integer> fits(int n) {
        List<Integer> rows = new ArrayList<>();
        for (int b = 0; b < breaths(); b++) {
            State t = blow(start(), b);
            if (n == 1) {
                if (t.burning.equals(left)) {
                    rows.add(b);
                }
                continue;
            }
            for (int then = 0; then < breaths(); then++) {
                if (blow(t, then).burning.equals(left)) {
                    rows.add(b);
                }
            }
        }
        return rows;
    }

    int more(State s, int spot) {
        Model m = copy();
        m.candles.add(new Candle(spots.get(spot).x, spots.get(spot).y, "plain"));
        Set<Integer> burning = new TreeSet<>(s.burning);
        burning.add(candles.size());
        return m.fewest(new State(burning, s.dazed), m.everyBreath());
    }

    int less(State s, int sort, int i) {
        Model m = copy();
        if (sort == 1) {
            m.places.remove(i);
            return m.fewest(s, m.everyBreath());
        }
        if (sort == 2) {
            m.people.remove(i);
            return m.fewest(s, m.everyBreath());
        }
        m.candles.remove(i);
        return m.fewest(new State(without(s.burning, i), without(s.dazed, i)), m.everyBreath());
    }

    private static Set<Integer> without(Set<Integer> set, int i) {
        Set<Integer> rest = new TreeSet<>();
        for (int c : set) {
            if (c != i) {
                rest.add(c < i ? c : c - 1);
            }
        }
        return rest;
    }
}
