import java.util.ArrayList;
import java.util.List;
import java.util.function.Supplier;
import java.util.function.ToLongFunction;

/** All that can be asked of an object, so that two objects, or two orders of asking, can be compared answer by answer. */
final class Answers {
    private record Question(String name, ToLongFunction<ThreeBreaths> asked) {
    }

    private final List<Question> questions = new ArrayList<>();

    private Answers() {
    }

    /** What can be asked of this cake, some thirty of its breaths instead of all. */
    private static Answers of(ThreeBreaths like) {
        Answers all = new Answers();
        all.ofCandles(like.size(0));
        int breaths = 16 * like.size(1) * like.size(3);
        all.ofBreaths(breaths, breaths < 32 ? 1 : breaths / 31);
        all.ofPlacesAndPeople(like.size(1), like.size(3));
        all.ofChances();
        for (int spot = 0; spot <= like.size(2); spot++) {
            int asked = spot;
            all.add("more " + spot, x -> x.more(asked));
        }
        all.add("fewest", ThreeBreaths::fewest);
        for (int i = 0; i <= like.fewest(); i++) {
            int asked = i;
            all.add("row " + i, x -> x.row(asked));
        }
        return all;
    }

    private void add(String name, ToLongFunction<ThreeBreaths> asked) {
        questions.add(new Question(name, asked));
    }

    private void ofCandles(int candles) {
        for (int what = 0; what < 10; what++) {
            int asked = what;
            add("size " + what, x -> x.size(asked));
        }
        for (int c = 0; c < candles; c++) {
            int candle = c;
            add("x " + c, x -> x.candle(candle, 0));
            add("y " + c, x -> x.candle(candle, 1));
            add("kind " + c, x -> x.candle(candle, 2));
            add("lights " + c, x -> x.lights(candle, false));
            add("lit by " + c, x -> x.lights(candle, true));
            add("soonest " + c, x -> x.soonest(candle));
            add("less 0 " + c, x -> x.less(0, candle));
        }
        add("burning", ThreeBreaths::burning);
        add("dazed", ThreeBreaths::dazed);
    }

    private void ofBreaths(int breaths, int step) {
        for (int b = 0; b < breaths; b += step) {
            int breath = b;
            add("fan " + b, x -> x.fan(breath));
            add("gain " + b, x -> x.gain(breath));
        }
        add("fans", ThreeBreaths::fans);
        add("spared", ThreeBreaths::spared);
        add("greedy", ThreeBreaths::greedy);
        add("greedyEnd", ThreeBreaths::greedyEnd);
        add("inTime", ThreeBreaths::inTime);
        add("each", ThreeBreaths::each);
        add("team", ThreeBreaths::team);
        for (int n = 0; n <= 9; n++) {
            int asked = n;
            add("few " + n, x -> x.few(asked));
        }
    }

    private void ofPlacesAndPeople(int places, int people) {
        for (int place = 0; place < places; place++) {
            int at = place;
            add("from " + place, x -> x.from(at));
            add("less 1 " + place, x -> x.less(1, at));
            for (int person = 0; person < people; person++) {
                int who = person;
                add("walk " + person + " " + place, x -> x.walk(who, at));
            }
        }
        for (int person = 0; person < people; person++) {
            int who = person;
            add("by " + person, x -> x.by(who));
            add("less 2 " + person, x -> x.less(2, who));
        }
    }

    private void ofChances() {
        for (int n = 3; n >= 1; n--) {
            int asked = n;
            add("chance " + n, x -> x.chance(asked, false));
            add("chance of " + n, x -> x.chance(asked, true));
            add("content " + n, x -> x.content(asked, false));
            add("content of " + n, x -> x.content(asked, true));
            add("best " + n, x -> x.best(asked));
        }
        for (int n = 1; n <= 2; n++) {
            int asked = n;
            add("fits " + n, x -> x.fits(asked));
            for (int i = 0; i < 100; i += 33) {
                int row = i;
                add("fitAt " + n + " " + i, x -> x.fitAt(asked, row));
            }
        }
    }

    /** Each answer of one object is that of another, which is asked the same from the first question on. */
    static void same(String name, ThreeBreaths got, ThreeBreaths want) {
        for (Question q : of(want).questions) {
            Check.due(name + ": " + q.name, q.asked.applyAsLong(got), q.asked.applyAsLong(want));
        }
    }

    /** Each answer of one object, asked from the last question to the first, is that of an object that is asked nothing else. */
    static void inAnyOrder(String name, Supplier<ThreeBreaths> made) {
        ThreeBreaths asked = made.get();
        List<Question> all = of(made.get()).questions;
        for (int i = all.size() - 1; i >= 0; i--) {
            Question q = all.get(i);
            Check.due(name + ": " + q.name, q.asked.applyAsLong(asked), q.asked.applyAsLong(made.get()));
        }
    }
}
