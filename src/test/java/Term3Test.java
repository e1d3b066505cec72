/** Term III: chances, means, soonest and few, what fits, one more and one less, acts, undo and images. */
public final class Term3Test {
    private static final int[][] HALF = {{1, 0}, {2, 1}, {1, 1}, {1, 2}, {0, 1}, {-1, 2}, {-1, 1}, {-2, 1}};
    // From o: way 0 hits a, way 1 hits b, way 2 hits c.
    private static final String THREE = "cake near 0 wax 3;candle a at 2,0 plain;candle b at 2,1 plain;candle c at 2,2 plain;"
        + "place o at 0,0;person p reach 3 spread 0";
    // a lights b behind every breath that leaves it burning; a holds out once.
    private static final String RELIT = "cake near 1 wax 9;candle a at 1,0 trick;candle b at 2,0 again;place o at 0,0;person p reach 3 spread 0";

    public static void main(String[] args) {
        Sentences.run(Term3Test.class);
    }

    private static String at(int way) {
        int sign = way < 8 ? 1 : -1;
        return (10 + sign * HALF[way % 8][0]) + "," + (10 + sign * HALF[way % 8][1]);
    }

    /** One candle, which this way alone hits. */
    private static String lone(int way, String weights) {
        return "cake near 0 wax 3;candle a at " + at(way) + " plain;place o at 10,10;person p reach 3 spread 0"
            + (weights.isEmpty() ? "" : ";shaky " + weights);
    }

    private static void chance(ThreeBreaths x, int n, long upper, long lower) {
        Check.due(x, "chance(" + n + ", false)", x.chance(n, false), upper, 0);
        Check.due(x, "chance(" + n + ", true)", x.chance(n, true), lower, 0);
    }

    private static void mean(ThreeBreaths x, int n, long upper, long lower) {
        Check.due(x, "content(" + n + ", false)", x.content(n, false), upper, 0);
        Check.due(x, "content(" + n + ", true)", x.content(n, true), lower, 0);
    }

    private static ThreeBreaths onlyAburns() {
        ThreeBreaths x = Check.told(RELIT);
        x.blow(0);
        x.blow(0);
        x.light(0);
        Check.due("burning(), a alone", x.burning(), 1);
        return x;
    }

    private static long common(long a, long b) {
        return b == 0 ? a : common(b, a % b);
    }

    // ---- chances

    @Says("it goes one WAY back (by the first weight of shaky), as chosen (by the second), or one WAY on (by the third; round, of the same person, place)")
    static void term3_itGoesOneWayBackOrOnRound() {
        for (int way = 0; way < 16; way++) {
            int[] chosen = {(way + 1) % 16, way, (way + 15) % 16};
            String[] weights = {"7,0,0", "0,7,0", "0,0,7"};
            for (int i = 0; i < 3; i++) {
                ThreeBreaths x = Check.told(lone(way, weights[i]));
                chance(x, 1, 1, 1);
                Check.due("best(1), way " + way + ", shaky " + weights[i], x.best(1), chosen[i]);
                mean(x, 1, 0, 1);
            }
        }
    }

    @Says("of the same person, place")
    static void term3_itGoesRoundOfTheSamePersonAndPlace() {
        // Way 0 and way 15 of one place and person alone have a candle in it: the last way back, or on, is theirs.
        String[] people = {"person p reach 1 spread 0;person q reach 3 spread 0", "person q reach 3 spread 0;person p reach 1 spread 0"};
        String[] places = {"place m at 0,20;place o at 10,10", "place o at 10,10;place m at 0,20"};
        for (int who = 0; who < 2; who++) {
            for (int where = 0; where < 2; where++) {
                int first = 16 * (2 * (1 - who) + 1 - where);
                // Twice as far, so that reach 1 never has it.
                String text = "cake near 0 wax 3;candle a at 12,10 plain;" + places[where] + ";" + people[who] + ";shaky ";
                Check.due("way 0, going on", Check.told(text + "0,0,1").best(1), first + 15);
                Check.due("way 0, going back", Check.told(text + "1,0,0").best(1), first + 1);
                text = text.replace("12,10", "12,9");
                Check.due("way 15, going on", Check.told(text + "0,0,1").best(1), first + 14);
                Check.due("way 15, going back", Check.told(text + "1,0,0").best(1), first);
                chance(Check.told(text + "1,0,0"), 1, 1, 1);
            }
        }
    }

    @Says("(by the first weight of shaky), as chosen (by the second), or one WAY on (by the third")
    static void term3_byTheWeights() {
        for (int back = 0; back <= 9; back++) {
            for (int straight = 0; straight <= 9; straight++) {
                for (int on = 0; on <= 9; on += 3) {
                    int sum = back + straight + on;
                    if (sum != 0) {
                        weighed(back, straight, on, sum);
                    }
                }
            }
        }
    }

    private static void weighed(int back, int straight, int on, int sum) {
        // The candle is on way 8: chosen 7 going on hits it, 8 as chosen, 9 going back.
        ThreeBreaths x = Check.told(lone(8, back + "," + straight + "," + on));
        int most = Math.max(back, Math.max(straight, on));
        long common = common(sum, most);
        chance(x, 1, most / common, sum / common);
        Check.due("best(1) of " + back + "," + straight + "," + on, x.best(1), on == most ? 7 : straight == most ? 8 : 9);
        int less = sum - most;
        common = common(sum, less);
        mean(x, 1, less / common, sum / common);
        long all = (long) sum * sum * sum;
        long hit = all - (long) less * less * less;
        common = common(all, hit);
        chance(x, 3, hit / common, all / common);
        common = common(all, (long) less * less * less);
        mean(x, 3, (long) less * less * less / common, all / common);
    }

    @Says("without shaky as chosen")
    static void term3_withoutShakyAsChosen() {
        for (int way = 0; way < 16; way++) {
            ThreeBreaths x = Check.told(lone(way, ""));
            chance(x, 1, 1, 1);
            Check.due("best(1)", x.best(1), way);
            mean(x, 1, 0, 1);
        }
        ThreeBreaths x = Check.told(THREE);
        chance(x, 1, 0, 1);
        chance(x, 2, 0, 1);
        chance(x, 3, 1, 1);
        mean(x, 1, 2, 1);
        mean(x, 2, 1, 1);
        mean(x, 3, 0, 1);
        // A cake with shaky before it doesn't matter.
        x = Check.told(lone(3, "1,0,0"));
        Check.cake(x, lone(3, ""));
        Check.due("best(1) of the next cake", x.best(1), 3);
    }

    @Says("each is chosen by what burns then")
    static void term3_eachIsChosenByWhatBurnsThen() {
        // Each breath hits what it is meant for by a half; with three at least two must hit, whichever: 4 of 8.
        ThreeBreaths x = Check.told("cake near 0 wax 3;candle a at 2,0 plain;candle b at 0,2 plain;place o at 0,0;person p reach 3 spread 0;"
            + "shaky 0,1,1");
        chance(x, 1, 0, 1);
        chance(x, 2, 1, 4);
        chance(x, 3, 1, 2);
        mean(x, 1, 3, 2);
        mean(x, 2, 1, 1);
        // 1/8 with both left, 3/8 with one.
        mean(x, 3, 5, 8);
        // Dazed by a half; then out by a half; or not dazed any more, and from the beginning.
        x = Check.told("cake near 0 wax 3;candle a at 2,0 trick;place o at 0,0;person p reach 3 spread 0;shaky 1,2,1");
        chance(x, 1, 0, 1);
        chance(x, 2, 1, 4);
        chance(x, 3, 3, 8);
    }

    @Says("The greatest likeliness that none burns behind n of them at most (none needed any more: 1).")
    static void term3_chanceIsOneIfNoneIsNeeded() {
        for (String weights : new String[] {"", "1,2,3", "9,9,9"}) {
            ThreeBreaths x = Check.told(lone(4, weights));
            x.blow(4);
            for (int n = 1; n <= 3; n++) {
                chance(x, n, 1, 1);
                mean(x, n, 0, 1);
            }
        }
        // Fewer than n are enough, too.
        ThreeBreaths x = Check.told(THREE);
        x.blow(0);
        x.blow(1);
        for (int n = 1; n <= 3; n++) {
            chance(x, n, 1, 1);
        }
    }

    @Says("BEST: the first BREATH chosen, the least number with which it is so likely.")
    static void term3_best() {
        ThreeBreaths x = Check.told(THREE);
        Check.due("best(1), none is likely", x.best(1), 0);
        Check.due("best(2), none is likely", x.best(2), 0);
        Check.due("best(3), any of three", x.best(3), 0);
        x.blow(0);
        Check.due("best(1), none is likely", x.best(1), 0);
        Check.due("best(2), b first", x.best(2), 1);
        Check.due("best(3), there is time", x.best(3), 0);
        x.blow(1);
        Check.due("best(1), c", x.best(1), 2);
        Check.due("best(2), there is time", x.best(2), 0);
        // Of like ones of two people and three places the least.
        x = Check.told("cake near 0 wax 3;candle a at 5,6 plain;place m at 0,0;place o at 5,5;place k at 5,5;person q reach 2 spread 0;"
            + "person p reach 1 spread 0;shaky 1,2,1");
        Check.due("best(1), of like ones", x.best(1), 16 + 4);
        x = Check.told(lone(0, "2,2,1"));
        Check.due("best(1), chosen or going back", x.best(1), 0);
        x = Check.told(lone(0, "2,2,2"));
        Check.due("best(1), whichever of three", x.best(1), 0);
        x = Check.told(lone(1, "2,2,2"));
        Check.due("best(1), going on", x.best(1), 0);
        x = Check.told(lone(15, "2,1,2"));
        Check.due("best(1), going back round", x.best(1), 0);
    }

    @Says("CONTENT in n BREATHS: chosen and going as for CHANCE, or none any more from some moment on: the least mean of how many burn then.")
    static void term3_content() {
        // Only the breath up puts out c and b; a, still burning, lights c at once, and b by c behind every other breath.
        ThreeBreaths x = Check.told("cake near 2 wax 3;candle a at 1,1 again;candle b at 0,3 again;candle c at 0,2 again;place o at 0,1;"
            + "person p reach 3 spread 0;shaky 1,1,2");
        mean(x, 1, 5, 2);
        // Two are left by a half: then none any more; else once again: 1/2 times 2 and 1/2 times 5/2.
        mean(x, 2, 9, 4);
        mean(x, 3, 17, 8);
        x.blow(4);
        Check.due("two are left", x.burning(), 5);
        for (int n = 1; n <= 3; n++) {
            mean(x, n, 2, 1);
        }
    }

    @Says("or none any more from some moment on")
    static void term3_contentWithNoneAtAll() {
        // Every first breath lets one more burn; only with two is all out.
        ThreeBreaths x = onlyAburns();
        mean(x, 1, 1, 1);
        mean(x, 2, 0, 1);
        // b alone can be hit, and lights again at once: no breath helps.
        x = Check.told("cake near 1 wax 3;candle a at 1,5 plain;candle b at 2,5 again;candle c at 3,5 again;place o at 2,6;"
            + "person p reach 1 spread 0");
        for (int n = 1; n <= 3; n++) {
            mean(x, n, 3, 1);
        }
    }

    // ---- soonest, few, fits

    @Says("SOONEST of a candle: the fewest BREATHS from NOW on behind which it is out.")
    static void term3_soonest() {
        ThreeBreaths x = onlyAburns();
        Check.due("soonest(0)", x.soonest(0), 2);
        Check.due("soonest(1), out now", x.soonest(1), 0);
        x = Check.told(RELIT);
        Check.due("soonest(1), relit behind the first", x.soonest(1), 2);
        x.blow(0);
        Check.due("soonest(1), a is dazed", x.soonest(1), 1);
        x.blow(8);
        Check.due("soonest(1), a isn't any more", x.soonest(1), 2);
    }

    @Says("FEW behind n BREATHS (0 .. 9) from NOW on, one behind the other, just n: the fewest that can burn then.")
    static void term3_few() {
        ThreeBreaths x = onlyAburns();
        int[] want = {1, 2, 0, 0, 0, 0, 0, 0, 0, 0};
        for (int n = 0; n <= 9; n++) {
            Check.due(x, "few(" + n + ")", x.few(n), want[n], 0);
        }
        Check.due(x, "few(-1)", x.few(-1), -1, 2);
        Check.due(x, "few(10)", x.few(10), -1, 2);
    }

    @Says("FITS: rows of n (1, 2) BREATHS from all burning on, behind which just those left burn.")
    static void term3_fits() {
        ThreeBreaths x = Check.told(THREE + ";left b,c");
        for (int i = 0; i < 2; i++) {
            Check.due("fits(1)", x.fits(1), 1);
            Check.due("fitAt(1, 0)", x.fitAt(1, 0), 0);
            // 0 and then any of 14 that hit neither b nor c, or one of 13 that hit none and then 0.
            Check.due("fits(2)", x.fits(2), 27);
            // Whatever burns now.
            x.blow(1);
        }
        // Just those left: not all with more, not with fewer.
        Check.due("all left", Check.told(THREE + ";left a,b,c").fits(1), 13);
        Check.due("none left", Check.told(THREE + ";left none").fits(2), 0);
        Check.due("one left: two orders", Check.told(THREE + ";left b").fits(2), 2);
        // Dazed or not doesn't matter: it burns. Both together are needed to put a out.
        x = Check.told("cake near 0 wax 3;candle a at 1,0 trick;candle b at 0,1 plain;place o at 0,0;person p reach 1 spread 0;left a,b");
        Check.due("fits(1), a trick one left", x.fits(1), 15);
        Check.due("fits(2), a trick one left", x.fits(2), 15 * 15 - 1);
        x = Check.told("cake near 0 wax 3;candle a at 1,0 trick;candle b at 0,1 plain;place o at 0,0;person p reach 1 spread 0;left b");
        Check.due("fits(1), a trick one out", x.fits(1), 0);
        Check.due("fits(2), a trick one out", x.fits(2), 1);
        // What lights again is left, too.
        x = Check.told("cake near 1 wax 3;candle a at 2,0 again;candle b at 2,1 plain;place o at 0,0;person p reach 3 spread 0;left a,b");
        Check.due("fits(1), lit again", x.fits(1), 15);
    }

    // ---- more, less

    @Says("MORE of a spot: FEWEST of all if a plain candle burnt there, too, from all others as they are NOW.")
    static void term3_more() {
        ThreeBreaths x = Check.told(THREE + ";spot s at 1,0;spot t at 0,2;spot u at 20,20;spot v at 0,0");
        int[] all = {3, 4, -2, 3};
        int[] aOut = {3, 3, -2, 2};
        int[] none = {1, 1, -2, 1};
        for (int spot = 0; spot < 4; spot++) {
            Check.due("more(" + spot + ")", x.more(spot), all[spot]);
        }
        x.blow(0);
        for (int spot = 0; spot < 4; spot++) {
            Check.due("more(" + spot + "), a out", x.more(spot), aOut[spot]);
        }
        x.blow(1);
        x.blow(2);
        for (int spot = 0; spot < 4; spot++) {
            Check.due("more(" + spot + "), none burns else", x.more(spot), none[spot]);
        }
        Check.due("it isn't there", x.fewest(), 0);
        Check.due("nor does it burn", x.burning(), 0);
    }

    @Says("if a plain candle burnt there, too")
    static void term3_moreLightsOthersAndDoesNotLightAgain() {
        // It lights a again as long as it burns, within near alone.
        String text = "cake near 3 wax 3;candle t at 1,0 trick;candle a at 2,0 again;place o at 0,0;person p reach 3 spread 0;spot s at 0,1;"
            + "spot z at 0,2";
        ThreeBreaths x = Check.told(text);
        x.blow(0);
        Check.due("t is dazed", x.dazed(), 1);
        Check.due("fewest()", x.fewest(), 1);
        Check.due("more(0): it lights a", x.more(0), 3);
        Check.due("more(1): it lights a", x.more(1), 3);
        x = Check.told(text.replace("near 3", "near 2"));
        x.blow(0);
        Check.due("more(0): just too far", x.more(0), 2);
        // What a spot near a lights, another, far from it, doesn't.
        x = Check.told(text.replace("0,2", "0,9"));
        x.blow(0);
        Check.due("more(0): it lights a", x.more(0), 3);
        Check.due("more(1): out of every fan, and far", x.more(1), -2);
        x = Check.told("cake near 3 wax 3;candle a at 2,0 again;candle t at 1,0 trick;place o at 0,0;person p reach 9 spread 0;spot s at 0,1;"
            + "spot z at 0,9");
        x.blow(0);
        Check.due("more(0): it lights a, told first", x.more(0), 3);
        Check.due("more(1): too far to light a", x.more(1), 2);
        // It lights a, which is in one fan with it: t, dazed, goes out first, then both.
        x = Check.told("cake near 1 wax 3;candle t at 1,0 trick;candle a at 0,2 again;place o at 0,0;person p reach 3 spread 0;spot s at 0,3");
        x.blow(4);
        x.blow(0);
        Check.due("burning(), t alone", x.burning(), 1);
        Check.due("dazed(), t", x.dazed(), 1);
        Check.due("more(0): t, then both", x.more(0), 2);
        // An again one near lights no plain one: one breath each, in whatever order.
        x = Check.told("cake near 9 wax 3;candle a at 1,0 tall;candle b at 2,0 plain;place o at 0,0;person p reach 3 spread 0;spot s at 0,1");
        Check.due("more(0)", x.more(0), 2);
        // Plain, it is in reach where a tall one is not.
        x = Check.told("cake near 0 wax 3;candle a at 2,0 tall;place o at 0,0;person p reach 4 spread 0;spot s at 4,0;spot t at 5,0");
        Check.due("more(0), in reach", x.more(0), 1);
        Check.due("more(1), too far", x.more(1), -2);
    }

    @Says("LESS of a candle, of a place, of a person: FEWEST of all from NOW on if that weren't there (a candle: neither burns nor lights others).")
    static void term3_less() {
        // b, out of every fan, lights a and c for ever.
        ThreeBreaths x = Check.told("cake near 9 wax 3;candle a at 1,0 again;candle b at 0,9 plain;candle c at 2,0 again;place o at 0,0;"
            + "person p reach 3 spread 0");
        Check.due("fewest()", x.fewest(), -2);
        Check.due("less(0, 0)", x.less(0, 0), -2);
        Check.due("less(0, 1)", x.less(0, 1), 1);
        Check.due("less(0, 2)", x.less(0, 2), -2);
        // One that isn't there doesn't light again either.
        x = Check.told("cake near 1 wax 3;candle a at 3,0 again;candle b at 3,1 plain;place o at 0,0;place m at 5,1;person p reach 3 spread 0");
        Check.due("fewest()", x.fewest(), 2);
        Check.due("less(0, 0)", x.less(0, 0), 1);
        Check.due("less(0, 1)", x.less(0, 1), 1);
        // Whichever it is: t, that holds out once, would light it between two breaths.
        String[] candles = {"candle a at 0,1 again", "candle b at 0,1 again", "candle c at 0,1 again"};
        for (int c = 0; c < 3; c++) {
            StringBuilder text = new StringBuilder("cake near 2 wax 3;place o at 0,0;person p reach 3 spread 0");
            for (int i = 0; i < 3; i++) {
                text.append(';').append(i == c ? candles[i] : i == (c + 1) % 3 ? "candle t at 1,0 trick" : "candle z at 2,0 plain");
            }
            x = Check.told(text.toString());
            Check.due("less() of " + c, x.less(0, c), 2);
            Check.due("fewest()", x.fewest(), 3);
        }
        // Asked for, it is there as before: b, out of every fan, lights a again.
        x = Check.told("cake near 2 wax 3;candle a at 1,0 again;candle b at 1,1 plain;place o at 0,0;person p reach 1 spread 0");
        Check.due("less(0, 0), b left", x.less(0, 0), -2);
        Check.due("less(0, 1), b not there", x.less(0, 1), 1);
        Check.due("blow(0): a lit again", x.blow(0), 2);
        // Of a place and of a person: what they alone could do can't be; what others can is done so.
        x = Check.told(THREE.replace("place o", "place m at 5,3;place o").replace("person p", "person q reach 9 spread 10;person p"));
        Check.due("fewest()", x.fewest(), 1);
        Check.due("less(1, 0)", x.less(1, 0), 1);
        Check.due("less(1, 1)", x.less(1, 1), 1);
        Check.due("less(2, 0)", x.less(2, 0), 3);
        Check.due("less(2, 1)", x.less(2, 1), 1);
        // From now on, dazed or not.
        x = Check.told(RELIT);
        Check.due("less(0, 1)", x.less(0, 1), 2);
        Check.due("less(0, 0)", x.less(0, 0), 1);
        x.blow(0);
        Check.due("less(0, 1), a dazed", x.less(0, 1), 1);
    }

    // ---- acts

    @Says("ACTS: BLOW, LIGHT (a candle that is out), ALL (all burn, none DAZED).")
    static void term3_threeActs() {
        ThreeBreaths x = Check.told(RELIT);
        x.blow(0);
        Check.due("acts behind blow", x.size(8), 1);
        x.blow(0);
        x.light(1);
        Check.due("acts behind light", x.size(8), 3);
        x.light(1);
        Check.due("acts behind a light refused", x.size(8), 3);
        x.all();
        Check.due("acts behind all", x.size(8), 4);
        x.blow(16);
        x.light(2);
        x.image();
        x.greedyEnd();
        x.fewest();
        x.row(0);
        x.chance(3, false);
        x.more(0);
        x.less(0, 0);
        Check.due("acts behind what is none", x.size(8), 4);
    }

    @Says("UNDO: the latest (20 are kept).")
    static void term3_twentyActsAreKept() {
        for (int acts = 19; acts <= 45; acts += acts < 22 ? 1 : 23) {
            ThreeBreaths x = Check.told(RELIT);
            int[] burning = new int[acts + 1];
            int[] dazed = new int[acts + 1];
            for (int i = 0; i <= acts; i++) {
                burning[i] = x.burning();
                dazed[i] = x.dazed();
                Check.due("acts kept of " + i, x.size(8), Math.min(i, 20));
                if (i < acts && x.burning() == 0) {
                    x.light(i % 2);
                } else if (i < acts && i % 7 == 6) {
                    x.all();
                } else if (i < acts) {
                    x.blow(i % 5 == 4 ? 8 : 0);
                }
            }
            int kept = Math.min(acts, 20);
            for (int i = 1; i <= kept; i++) {
                Check.due(x, "undo() " + i + " of " + acts, x.undo(), true, 0);
                Check.due("burning() then", x.burning(), burning[acts - i]);
                Check.due("dazed() then", x.dazed(), dazed[acts - i]);
                Check.due("acts then", x.size(8), kept - i);
            }
            Check.due(x, "undo() beyond, of " + acts, x.undo(), false, 6);
            Check.due("burning() stays", x.burning(), burning[acts - kept]);
            Check.due("dazed() stays", x.dazed(), dazed[acts - kept]);
        }
    }

    @Says("IMAGES: up to 3;")
    static void term3_upTo3Images() {
        ThreeBreaths x = Check.told(RELIT);
        for (int i = 0; i < 3; i++) {
            Check.due(x, "image() " + i, x.image(), i, 0);
            x.blow(0);
        }
        for (int i = 0; i < 2; i++) {
            Check.due(x, "a fourth image()", x.image(), -1, 3);
            Check.due("images", x.size(9), 3);
        }
        int[] burning = {3, 3, 0};
        int[] dazed = {0, 1, 0};
        for (int i = 0; i < 3; i++) {
            Check.due(x, "back(" + i + ")", x.back(i), true, 0);
            Check.due("burning() then", x.burning(), burning[i]);
            Check.due("dazed() then", x.dazed(), dazed[i]);
        }
        Check.due(x, "back(3)", x.back(3), false, 1);
    }

    @Says("gone back to one, nothing can be undone.")
    static void term3_nothingCanBeUndoneBehindGoingBack() {
        ThreeBreaths x = Check.told(RELIT);
        x.image();
        x.blow(0);
        x.blow(0);
        Check.due("acts", x.size(8), 2);
        x.back(0);
        Check.due("acts behind back", x.size(8), 0);
        Check.due(x, "undo()", x.undo(), false, 6);
        Check.due("burning() stays", x.burning(), 3);
        // What is done from there can be undone, and no more.
        x.blow(0);
        Check.due("acts", x.size(8), 1);
        Check.due(x, "undo() from there", x.undo(), true, 0);
        Check.due(x, "undo() beyond", x.undo(), false, 6);
        // Full of acts, too.
        for (int i = 0; i < 25; i++) {
            x.blow(0);
        }
        x.back(0);
        Check.due(x, "undo() of none of 20", x.undo(), false, 6);
        // A back that is refused leaves them.
        x.blow(0);
        x.back(1);
        Check.due("acts behind a back refused", x.size(8), 1);
    }
}
