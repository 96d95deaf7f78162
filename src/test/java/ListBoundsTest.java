import java.util.function.ToIntBiFunction;

/** Promises 28 to 37 at their boundaries: pairs, odds, lists, crowds. */
public final class ListBoundsTest {
    private static final int NONE = ThinAir.NONE;
    private static final int MAX = Integer.MAX_VALUE;
    private static final int NOTHING = 1, NOUGHT = 4;

    public static void main(String[] args) {
        pairs();
        pairsApart();
        learn();
        just();
        justFirstTwenty();
        list();
        listed();
        gains();
        far();
        fall();
        crowd();
        crowdRefused();
        next();
        Sentence.end(28, 37);
    }

    /** Places: 0 as home, 1 higher, 2 hotter, 3 of rubber, 4 as home but of another land. */
    private static ThinAir withPlaces() {
        ThinAir x = new ThinAir();
        x.place(10, 20, 0, 0);
        x.place(11, 20, 0, 1);
        x.place(10, 21, 0, 2);
        x.place(10, 20, 1, 3);
        x.place(10, 20, 0, 3);
        return x;
    }

    private static void arePairs(ThinAir x, String when, int which, int many, int first) {
        Due.tells(x, when + ": pairs(" + which + ")", x.pairs(which), many, first);
    }

    private static void areNoPairs(ThinAir x, String when) {
        for (int which = 0; which < 5; which++) {
            arePairs(x, when, which, 0, NONE);
        }
    }

    /** Two marks unlike in one alone. */
    private static ThinAir withPair(int which) {
        ThinAir x = withPlaces();
        x.mark(3, 0, 100, 5, 1);
        x.mark(3, which == 0 || which == 4 ? 0 : which, 110, which == 0 ? 6 : 5, which == 4 ? 2 : 1);
        return x;
    }

    private static void pairs() {
        Sentence.holds(28, "How many PAIRS are unlike in one alone (0 WIND, 1 HEIGHT, 2 HEAT, 3 FLOOR, 4 SHOE);",
            () -> {
            for (int of = 0; of < 5; of++) {
                ThinAir x = withPair(of);
                for (int which = 0; which < 5; which++) {
                    arePairs(x, "unlike in " + of, which, which == of ? 1 : 0, which == of ? 1 : NONE);
                }
            }
            ThinAir none = withPlaces();
            none.mark(3, 0, 100, 5, 1);
            none.mark(3, 0, 110, 5, 1);
            none.mark(3, 4, 120, 5, 1);
            areNoPairs(none, "alike in all, VALUES and LANDS aside");
            ThinAir two = withPlaces();
            two.mark(3, 0, 100, 5, 1);
            two.mark(3, 1, 100, 6, 1);
            areNoPairs(two, "unlike in two");
        });
        Sentence.holds(28, "the first as 100 times the lesser MARK and the other by asked() (NONE).", () -> {
            ThinAir x = withPlaces();
            areNoPairs(x, "no marks");
            x.mark(3, 0, 100, 5, 1);
            areNoPairs(x, "a lone mark");
            for (int m = 1; m < 38; m++) {
                x.mark(m % 2, 0, 100, 5, 1);
            }
            areNoPairs(x, "alike marks");
            x.mark(4, 0, 100, 5, 1);
            x.mark(4, 0, 100, 6, 1);
            arePairs(x, "the last two of forty", 0, 1, 3839);
            ThinAir y = withPlaces();
            y.mark(0, 0, 100, 5, 1);
            y.mark(1, 0, 100, 5, 1);
            y.mark(1, 0, 100, 6, 1);
            y.mark(0, 0, 100, 6, 1);
            arePairs(y, "the least lesser one first", 0, 2, 3);
            y.mark(0, 0, 100, 7, 1);
            arePairs(y, "of it the least other one", 0, 4, 3);
        });
        Sentence.holds(28, "BAD.", () -> Due.within("pairs(which)", () -> withPair(0), (x, v) -> x.pairs(v), 0, 4));
    }

    private static void pairsApart() {
        Sentence.holds(28, "PAIRS", () -> {
            for (int days : new int[] {363, 364, 365, 366}) {
                ThinAir x = withPlaces();
                x.later(9999 - days);
                x.mark(3, 0, 100, 5, 1);
                x.later(days);
                x.mark(3, 0, 100, 6, 1);
                arePairs(x, days + " days apart", 0, days < 365 ? 1 : 0, days < 365 ? 1 : NONE);
            }
            for (int m = 0; m < 2; m++) {
                for (int kind = 1; kind <= 5; kind++) {
                    ThinAir x = withPair(0);
                    turn(x, m, kind);
                    areNoPairs(x, "mark " + m + " of KIND " + kind);
                }
            }
            for (int[] winds : new int[][] {{NONE, 5}, {5, NONE}, {NONE, -60}, {60, NONE}}) {
                ThinAir x = withPlaces();
                x.mark(3, 0, 100, winds[0], 1);
                x.mark(3, 0, 100, winds[1], 1);
                x.mark(4, 0, 100, winds[0], 1);
                x.mark(4, 0, 100, winds[1], 2);
                areNoPairs(x, "one of a pair gauged");
            }
            ThinAir both = withPlaces();
            both.mark(3, 0, 100, NONE, 1);
            both.mark(3, 0, 100, NONE, 2);
            arePairs(both, "none of a pair gauged", 4, 1, 1);
            ThinAir ends = withPlaces();
            ends.mark(3, 0, 100, -60, 1);
            ends.mark(3, 0, 100, 60, 1);
            arePairs(ends, "winds at both ends", 0, 1, 1);
        });
    }

    private static void turn(ThinAir x, int m, int kind) {
        switch (kind) {
            case 1: x.help(m, 1, NONE); break;
            case 2: x.help(m, 1, 0); break;
            case 3: x.paper(m, 1); break;
            case 4: x.cut(m, 1); break;
            default: x.strike(m, 0); break;
        }
    }

    private static void learn() {
        Sentence.holds(29, "LEARNT, told by upper(), lower(): how many PAIRS.", () -> {
            ThinAir x = withPlaces();
            x.mark(3, 0, 1, -60, 1);
            x.mark(3, 0, 9999, 60, 1);
            Due.fraction(x, "learn(0), the greatest", x.learn(0), 1, 4999, 60);
            ThinAir y = withPlaces();
            y.mark(3, 0, 9999, -60, 1);
            y.mark(3, 0, 1, 60, 1);
            Due.fraction(y, "learn(0), the least", y.learn(0), 1, -4999, 60);
            ThinAir even = withPlaces();
            even.mark(3, 0, 7, 1, 1);
            even.mark(3, 0, 7, 3, 1);
            Due.fraction(even, "learn(0) of alike VALUES", even.learn(0), 1, 0, 1);
            ThinAir back = withPlaces();
            back.mark(3, 0, 7, 3, 1);
            back.mark(3, 0, 8, 1, 1);
            Due.fraction(back, "learn(0), the greater wind told first", back.learn(0), 1, -1, 2);
        });
        Sentence.holds(29, "BAD: which 0 .. 3; ", () -> {
            ThinAir none = withPlaces();
            Due.bad(none, "learn(4), ahead of NOUGHT", () -> none.learn(4));
            Due.bad(none, "learn(-1), ahead of NOUGHT", () -> none.learn(-1));
            for (int which = 0; which < 4; which++) {
                ThinAir x = withPair(which);
                Due.is("learn(" + which + ") of a pair in it", x.learn(which), 1);
                for (int v : new int[] {Integer.MIN_VALUE, -1, 4, 5, MAX}) {
                    Due.bad(x, "learn(" + v + ") of a pair in " + which, () -> x.learn(v));
                }
            }
            ThinAir shoes = withPair(4);
            Due.bad(shoes, "learn(4) of a pair in SHOES", () -> shoes.learn(4));
        });
        Sentence.holds(29, "NOUGHT.", () -> {
            for (int of = 0; of < 5; of++) {
                ThinAir x = withPair(of);
                x.fall(1, 2);
                for (int which = 0; which < 4; which++) {
                    int wanted = which;
                    if (which != of) {
                        Due.finds(x, "learn(" + which + ") of a pair in " + of, () -> x.learn(wanted), NOUGHT);
                    }
                }
                if (of < 4) {
                    Due.fraction(x, "learn(" + of + ")", x.learn(of), 1, 10, 1);
                }
            }
        });
    }

    private static ThinAir withWinds(int... winds) {
        ThinAir x = withPlaces();
        for (int wind : winds) {
            x.mark(0, 0, 100, wind, 0);
        }
        return x;
    }

    private static void just() {
        Sentence.holds(30, "JUST of a WIND (-58 .. 58), told by upper(), lower(): how many are just that.", () -> {
            ThinAir least = withWinds(-60, -58, -57);
            Due.fraction(least, "just(-58)", least.just(-58), 1, 61, 125);
            ThinAir greatest = withWinds(60, 58, 57);
            Due.fraction(greatest, "just(58)", greatest.just(58), 1, 61, 125);
            for (int far = -3; far <= 3; far++) {
                ThinAir x = withWinds(10, 10 + far);
                int near = Math.abs(far) <= 2 ? 2 : 1;
                Due.fraction(x, "just(10), another one off by " + far, x.just(10), far == 0 ? 2 : 1,
                    far == 0 ? 1 : near == 2 ? 9 : 1, far == 0 ? 25 : near == 2 ? 25 : 5);
            }
            ThinAir none = withWinds(11);
            Due.fraction(none, "just(10) of none that are just that", none.just(10), 0, 1, 1);
        });
        Sentence.holds(30, "BAD; ", () -> {
            Due.within("just(w)", () -> withWinds(-58, 58), (x, v) -> x.just(v), -58, 58);
            ThinAir x = withWinds(60, -60);
            Due.bad(x, "just(59), with one near", () -> x.just(59));
            Due.bad(x, "just(-59), with one near", () -> x.just(-59));
            Due.bad(x, "just(NONE)", () -> x.just(NONE));
        });
        Sentence.holds(30, "NOUGHT: none from w less 2 to w and 2.", () -> {
            for (int wind : new int[] {7, 13, NONE, -60, 60}) {
                ThinAir x = withWinds(wind);
                Due.finds(x, "just(10) of " + wind, () -> x.just(10), NOUGHT);
            }
            ThinAir no = withWinds();
            Due.finds(no, "just(0) of no marks", () -> no.just(0), NOUGHT);
            ThinAir edges = withWinds(8, 12);
            Due.fraction(edges, "just(10) of 8, 12", edges.just(10), 0, 1, 1);
        });
    }

    private static void justFirstTwenty() {
        Sentence.holds(30, "how many are just that", () -> {
            int[] winds = new int[40];
            java.util.Arrays.fill(winds, 0, 19, 4);
            java.util.Arrays.fill(winds, 19, 21, 3);
            java.util.Arrays.fill(winds, 21, 40, 3);
            ThinAir x = withWinds(winds);
            // One of twenty: all choices but those without it.
            long all = 95367431640625L;
            Due.fraction(x, "just(3): the 20th counts, the 21st does not", x.just(3), 1, all - (1L << 40), all);
            java.util.Arrays.fill(winds, 0, 10, NONE);
            java.util.Arrays.fill(winds, 10, 20, 30);
            java.util.Arrays.fill(winds, 20, 40, 3);
            ThinAir y = withWinds(winds);
            Due.fraction(y, "just(3): those far off or not gauged don't count", y.just(3), 20, 1, all);
        });
    }

    /** Persons 0, 1, 2 with 300, 200, 100; TEXT 0 lets all. */
    private static ThinAir withList() {
        ThinAir x = withPlaces();
        for (int person = 0; person < 3; person++) {
            x.mark(person, 0, 300 - 100 * person, 0, person);
        }
        for (int t = 0; t < 4; t++) {
            x.text(t, 0);
        }
        return x;
    }

    /** What list(), listed(), gains(), far(), crowd() share: TEXTS that are missing, at FAULT, or want LAWS 0. */
    private static void refusesTexts(String call, ToIntBiFunction<ThinAir, Integer> run) {
        Due.within(call, ListBoundsTest::withList, run, 0, 3);
        ThinAir x = withPlaces();
        x.mark(0, 0, 100, 0, 0);
        for (int t = 0; t < 4; t++) {
            int text = t;
            Due.finds(x, call + " of a TEXT that is missing", () -> run.applyAsInt(x, text), NOTHING);
        }
    }

    private static void refusesFaults(String call, ToIntBiFunction<ThinAir, Integer> run) {
        ThinAir x = withList();
        for (String signs : new String[] {"x", "w", "s4", "vx", "w123", "W1,2"}) {
            Due.write(x, 1, signs);
            Due.state(x, call + " of '" + signs + "'", () -> run.applyAsInt(x, 1));
        }
        Due.write(x, 1, "v");
        Due.finds(x, call + " of 'v' without LAWS", () -> run.applyAsInt(x, 1), NOTHING);
        Due.write(x, 2, "T1");
        x.laws(1, 2);
        Due.finds(x, call + " of 'v' with LAWS 1 alone", () -> run.applyAsInt(x, 1), NOTHING);
        x.laws(0, 2);
        int answer = run.applyAsInt(x, 1);
        Due.holds(call + " of 'v' with LAWS 0 answered " + answer, answer >= 0);
    }

    private static void list() {
        Sentence.holds(31, "How many MARKS a LIST by a TEXT of RULES has; the first one by asked() (NONE).", () -> {
            ThinAir x = withPlaces();
            x.text(0, 0);
            Due.tells(x, "list(0) of no marks", x.list(0), 0, NONE);
            for (int person = 0; person < 12; person++) {
                x.mark(11 - person, 0, 100 + person, 0, 0);
                Due.tells(x, "list(0)", x.list(0), person + 1, person);
            }
            x.mark(0, 0, 9999, 0, 0);
            Due.tells(x, "list(0): one of each PERSON", x.list(0), 12, 12);
            Due.write(x, 0, "s0");
            Due.tells(x, "list(0) of none let", x.list(0), 0, NONE);
        });
        Sentence.holds(31, "BAD; NOTHING: the TEXT, LAWS 0 (v)", () -> refusesTexts("list(t)", (x, t) -> x.list(t)));
        Sentence.holds(31, "STATE: a FAULT. (STATE ahead of NOTHING of LAWS.)",
            () -> refusesFaults("list(t)", (x, t) -> x.list(t)));
    }

    private static void listed() {
        Sentence.holds(32, "MARK i of a LIST (0 the first); what counts of it by asked(). NONE.", () -> {
            ThinAir x = withList();
            Due.tells(x, "listed(0, 0)", x.listed(0, 0), 0, 300);
            Due.tells(x, "listed(0, 2)", x.listed(0, 2), 2, 100);
            Due.refuses(x, "listed(0, 3)", () -> x.listed(0, 3), NONE);
            Due.refuses(x, "listed(0, MAX)", () -> x.listed(0, MAX), NONE);
            Due.write(x, 0, "y1");
            Due.refuses(x, "listed(0, 0) of none", () -> x.listed(0, 0), NONE);
        });
        Sentence.holds(32, "BAD: i below 0; ", () -> {
            ThinAir x = withList();
            Due.bad(x, "listed(0, -1)", () -> x.listed(0, -1));
            Due.bad(x, "listed(0, MIN)", () -> x.listed(0, Integer.MIN_VALUE));
            Due.write(x, 0, "x");
            Due.bad(x, "listed(0, -1), ahead of STATE", () -> x.listed(0, -1));
            ThinAir bare = new ThinAir();
            Due.bad(bare, "listed(0, -1), ahead of NOTHING", () -> bare.listed(0, -1));
        });
        Sentence.holds(32, "NOTHING; STATE.", () -> {
            refusesTexts("listed(t, 0)", (x, t) -> x.listed(t, 0));
            refusesTexts("listed(t, 40)", (x, t) -> x.listed(t, 40));
            refusesFaults("listed(t, 0)", (x, t) -> x.listed(t, 0));
            ThinAir x = withList();
            Due.write(x, 1, "x");
            Due.state(x, "listed(1, 40), ahead of NONE", () -> x.listed(1, 40));
        });
    }

    private static void gains() {
        Sentence.holds(33, "How many PERSONS are further ahead in a LIST by one TEXT than by another one (or only"
                + " in it); which (bits) by asked().", () -> {
            ThinAir x = withList();
            x.mark(11, 0, 50, 0, 3);
            Due.write(x, 1, "s0");
            Due.write(x, 2, "s3");
            Due.write(x, 3, "s0s1s2s3");
            Due.tells(x, "gains(0, 0): none", x.gains(0, 0), 0, 0);
            Due.tells(x, "gains(0, 1): only in it", x.gains(0, 1), 1, 1);
            Due.tells(x, "gains(1, 0): those behind", x.gains(1, 0), 3, 1 << 1 | 1 << 2 | 1 << 11);
            Due.tells(x, "gains(0, 2): the last only in it", x.gains(0, 2), 1, 1 << 11);
            Due.tells(x, "gains(2, 0)", x.gains(2, 0), 0, 0);
            Due.tells(x, "gains(0, 3): all", x.gains(0, 3), 4, 1 | 1 << 1 | 1 << 2 | 1 << 11);
            Due.tells(x, "gains(3, 0)", x.gains(3, 0), 0, 0);
            Due.tells(x, "gains(3, 3): none of none", x.gains(3, 3), 0, 0);
            ThinAir all = withPlaces();
            all.text(0, 0);
            Due.write(all, 1, "y1");
            for (int person = 0; person < 12; person++) {
                all.mark(person, 0, 100, 0, 0);
            }
            Due.tells(all, "gains(0, 1): twelve", all.gains(0, 1), 12, 4095);
        });
        Sentence.holds(33, "BAD; ", () -> {
            Due.within("gains(t, 0)", ListBoundsTest::withList, (x, t) -> x.gains(t, 0), 0, 3);
            Due.within("gains(0, other)", ListBoundsTest::withList, (x, t) -> x.gains(0, t), 0, 3);
            ThinAir x = withPlaces();
            Due.bad(x, "gains(0, 4), ahead of NOTHING", () -> x.gains(0, 4));
            Due.write(x, 0, "x");
            Due.bad(x, "gains(0, 4), ahead of STATE", () -> x.gains(0, 4));
            Due.bad(x, "gains(-1, 0), ahead of STATE", () -> x.gains(-1, 0));
        });
        Sentence.holds(33, "NOTHING; STATE.", () -> {
            refusesTexts("gains(t, t)", (x, t) -> x.gains(t, t));
            refusesFaults("gains(t, 0)", (x, t) -> x.gains(t, 0));
            refusesFaults("gains(0, t)", (x, t) -> x.gains(0, t));
            ThinAir x = withPlaces();
            x.text(0, 0);
            Due.finds(x, "gains(0, 1)", () -> x.gains(0, 1), NOTHING);
            Due.finds(x, "gains(1, 0)", () -> x.gains(1, 0), NOTHING);
            Due.write(x, 0, "x");
            Due.finds(x, "gains(0, 1), ahead of STATE", () -> x.gains(0, 1), NOTHING);
            Due.finds(x, "gains(1, 0), ahead of STATE", () -> x.gains(1, 0), NOTHING);
            Due.write(x, 1, "v");
            Due.state(x, "gains(0, 1), ahead of NOTHING of LAWS", () -> x.gains(0, 1));
            Due.state(x, "gains(1, 0), ahead of NOTHING of LAWS", () -> x.gains(1, 0));
        });
    }

    private static void far() {
        Sentence.holds(34, "FAR, told by upper(), lower(): how many are in the LIST.", () -> {
            ThinAir x = Due.withValues(9999, 2, 1);
            Due.fraction(x, "far(0), the greatest", x.far(0), 3, 9997, 1);
            ThinAir y = Due.withValues(9999, 9999, 1);
            Due.fraction(y, "far(0), the first as the second", y.far(0), 3, 0, 1);
            ThinAir z = Due.withValues(9999, 9998, 1, 500);
            Due.fraction(z, "far(0), the least above 0", z.far(0), 4, 1, 9997);
            ThinAir lowest = Due.withValues(10, 6, 6, 4);
            Due.fraction(lowest, "far(0), in lowest terms", lowest.far(0), 4, 2, 1);
        });
        Sentence.holds(34, "BAD; NOTHING; STATE; ", () -> {
            refusesTexts("far(t)", (x, t) -> x.far(t));
            refusesFaults("far(t)", (x, t) -> x.far(t));
            ThinAir x = Due.withValues();
            Due.write(x, 0, "x");
            Due.state(x, "far(0) of none, ahead of NOUGHT", () -> x.far(0));
            Due.write(x, 0, "v");
            Due.finds(x, "far(0) of none without LAWS, ahead of NOUGHT", () -> x.far(0), NOTHING);
        });
        Sentence.holds(34, "NOUGHT: fewer than three, or the second is as the last.", () -> {
            for (int[] values : new int[][] {{}, {5}, {5, 4}, {5, 4, 4}, {5, 5, 5}, {5, 4, 4, 4}}) {
                ThinAir x = Due.withValues(values);
                Due.finds(x, "far(0) of " + java.util.Arrays.toString(values), () -> x.far(0), NOUGHT);
            }
            ThinAir x = Due.withValues(5, 4);
            x.mark(1, 0, 3, 0, 0);
            Due.finds(x, "far(0) of three marks, two persons", () -> x.far(0), NOUGHT);
            x.mark(2, 0, 3, 0, 0);
            Due.fraction(x, "far(0) of three", x.far(0), 3, 1, 1);
        });
    }

    private static void fall() {
        Sentence.holds(35, "FALL of N MARKS (0 .. 9999) by k more (1 .. 9999), told by upper(), lower(): 1.", () -> {
            ThinAir x = new ThinAir();
            Due.fraction(x, "fall(0, 1)", x.fall(0, 1), 1, 1, 1);
            Due.fraction(x, "fall(0, 9999)", x.fall(0, 9999), 1, 1, 1);
            Due.fraction(x, "fall(1, 1)", x.fall(1, 1), 1, 1, 2);
            Due.fraction(x, "fall(9999, 1)", x.fall(9999, 1), 1, 1, 10000);
            Due.fraction(x, "fall(9999, 9999)", x.fall(9999, 9999), 1, 1, 2);
            Due.fraction(x, "fall(9999, 9998)", x.fall(9999, 9998), 1, 9998, 19997);
        });
        Sentence.holds(35, "BAD.", () -> {
            Due.within("fall(n, 1)", ThinAir::new, (x, v) -> x.fall(v, 1), 0, 9999);
            Due.within("fall(0, k)", ThinAir::new, (x, v) -> x.fall(0, v), 1, 9999);
        });
    }

    /** Forty marks of land 0, the last twenty of land 3 (the lesser ones); TEXT 0 lets all. */
    private static ThinAir withForty() {
        ThinAir x = withPlaces();
        x.text(0, 0);
        for (int m = 0; m < 40; m++) {
            x.mark(m % 12, m < 20 ? 0 : 4, 1000 - m, 0, 0);
        }
        return x;
    }

    private static void crowd() {
        Sentence.holds(36, "CROWD of a LAND and a YEAR (0 .. 27) by RULES and the best t (1 .. 40), told by"
                + " upper(), lower(): how many of these are among them.", () -> {
            ThinAir x = withForty();
            Due.fraction(x, "crowd(0, 0, 0, 20): all choices but one are worse", x.crowd(0, 0, 0, 20), 20,
                1, 137846528820L);
            Due.fraction(x, "crowd(0, 3, 0, 20)", x.crowd(0, 3, 0, 20), 0, 1, 1);
            Due.fraction(x, "crowd(0, 3, 0, 21)", x.crowd(0, 3, 0, 21), 1, 1, 1);
            Due.fraction(x, "crowd(0, 0, 0, 1)", x.crowd(0, 0, 0, 1), 1, 1, 2);
            Due.fraction(x, "crowd(0, 0, 0, 40)", x.crowd(0, 0, 0, 40), 20, 1, 1);
            Due.fraction(x, "crowd(0, 3, 0, 40)", x.crowd(0, 3, 0, 40), 20, 1, 1);
            ThinAir last = withPlaces();
            last.text(0, 0);
            last.later(9854);
            last.mark(0, 0, 100, 0, 0);
            last.later(1);
            last.mark(0, 0, 200, 0, 0);
            last.later(144);
            last.mark(0, 0, 300, 0, 0);
            Due.fraction(last, "crowd(0, 0, 27, 2) of days 9855, 9999", last.crowd(0, 0, 27, 2), 2, 1, 3);
            Due.fraction(last, "crowd(0, 0, 26, 3) of day 9854", last.crowd(0, 0, 26, 3), 1, 1, 1);
        });
        Sentence.holds(36, "BAD; ", () -> {
            Due.within("crowd(rules, 0, 0, 1)", ListBoundsTest::withList, (x, v) -> x.crowd(v, 0, 0, 1), 0, 3);
            Due.within("crowd(0, land, 0, 1)", () -> {
                ThinAir x = withList();
                x.mark(3, 4, 1, 0, 0);
                return x;
            }, (x, v) -> x.crowd(0, v, 0, 1), 0, 3);
            Due.within("crowd(0, 0, year, 1)", () -> {
                ThinAir x = withList();
                x.later(9999);
                x.mark(3, 0, 1, 0, 0);
                return x;
            }, (x, v) -> x.crowd(0, 0, v, 1), 0, 27);
            Due.within("crowd(0, 0, 0, t)", ListBoundsTest::withForty, (x, v) -> x.crowd(0, 0, 0, v), 1, 40);
            ThinAir x = new ThinAir();
            Due.bad(x, "crowd(0, 4, 0, 1), ahead of NOTHING", () -> x.crowd(0, 4, 0, 1));
            Due.write(x, 0, "x");
            Due.bad(x, "crowd(0, 0, 28, 1), ahead of STATE", () -> x.crowd(0, 0, 28, 1));
            x.text(0, 0);
            Due.bad(x, "crowd(0, 0, 0, 41), ahead of NOUGHT", () -> x.crowd(0, 0, 0, 41));
        });
    }

    private static void crowdRefused() {
        Sentence.holds(36, "NOTHING; STATE; ", () -> {
            refusesTexts("crowd(t, 0, 0, 1)", (x, t) -> x.crowd(t, 0, 0, 1));
            refusesFaults("crowd(t, 0, 0, 1)", (x, t) -> x.crowd(t, 0, 0, 1));
            ThinAir x = withPlaces();
            Due.finds(x, "crowd(0, 0, 0, 40), ahead of NOUGHT", () -> x.crowd(0, 0, 0, 40), NOTHING);
            Due.write(x, 0, "x");
            Due.state(x, "crowd(0, 0, 0, 40), ahead of NOUGHT", () -> x.crowd(0, 0, 0, 40));
            Due.write(x, 0, "v");
            Due.finds(x, "crowd(0, 0, 0, 40) without LAWS, ahead of NOUGHT", () -> x.crowd(0, 0, 0, 40), NOTHING);
        });
        Sentence.holds(36, "NOUGHT: none of these, or t above N.", () -> {
            ThinAir x = withList();
            Due.fraction(x, "crowd(0, 0, 0, 3): t as N", x.crowd(0, 0, 0, 3), 3, 1, 1);
            Due.finds(x, "crowd(0, 0, 0, 4): t above N", () -> x.crowd(0, 0, 0, 4), NOUGHT);
            Due.finds(x, "crowd(0, 1, 0, 1): none of the LAND", () -> x.crowd(0, 1, 0, 1), NOUGHT);
            Due.finds(x, "crowd(0, 0, 1, 1): none of the YEAR", () -> x.crowd(0, 0, 1, 1), NOUGHT);
            Due.write(x, 1, "s0");
            Due.fraction(x, "crowd(1, 0, 0, 2): t as N of those let", x.crowd(1, 0, 0, 2), 2, 1, 1);
            Due.finds(x, "crowd(1, 0, 0, 3): t above N of those let", () -> x.crowd(1, 0, 0, 3), NOUGHT);
            ThinAir none = withPlaces();
            none.text(0, 0);
            Due.finds(none, "crowd(0, 0, 0, 1) of no marks", () -> none.crowd(0, 0, 0, 1), NOUGHT);
        });
    }

    private static void next() {
        Sentence.holds(37, "NEXT; how many by asked(). NONE: all are gauged.", () -> {
            ThinAir x = withPlaces();
            Due.refuses(x, "next() of no marks", () -> x.next(), NONE);
            ThinAir bare = new ThinAir();
            Due.refuses(bare, "next() of no places", () -> bare.next(), NONE);
            x.mark(0, 4, 100, -60, 0);
            Due.refuses(x, "next(), all being gauged", () -> x.next(), NONE);
            x.mark(0, 4, 100, NONE, 0);
            Due.tells(x, "next() of one", x.next(), 4, 1);
            x.mark(0, 0, 100, NONE, 0);
            Due.tells(x, "next() of alike ones", x.next(), 0, 1);
            x.mark(0, 4, 100, NONE, 0);
            Due.tells(x, "next() of more", x.next(), 4, 2);
            ThinAir full = new ThinAir();
            for (int p = 0; p < 8; p++) {
                full.place(0, 0, 0, 0);
            }
            for (int m = 0; m < 40; m++) {
                full.mark(0, 7, 100, NONE, 0);
            }
            Due.tells(full, "next() of forty", full.next(), 7, 40);
        });
    }
}
