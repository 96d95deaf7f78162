import java.util.function.ToIntFunction;

/** Promises 38 to 44 at their boundaries: what is told, counted, found. */
public final class ToldBoundsTest {
    private static final int NONE = ThinAir.NONE;
    private static final int MIN = Integer.MIN_VALUE;
    private static final int MAX = Integer.MAX_VALUE;
    private static final int NOTHING = 1, BEYOND = 2, UNLIKE = 3, NOUGHT = 4, SIZE = 5;

    public static void main(String[] args) {
        asked();
        askedKept();
        upperAndLower();
        count();
        finding();
        findings();
        digest();
        digestOfEach();
        Sentence.end(38, 44);
    }

    /** A place, three marks, LAWS 0, TEXT 1 that lets all, a row; asked() 900, a fraction of 3 by 7. */
    private static ThinAir told() {
        ThinAir x = new ThinAir();
        x.place(10, 22, 1, 2);
        x.mark(0, 0, 900, 5, 1);
        x.mark(0, 0, 880, 3, 1);
        x.mark(1, 0, 870, NONE, 0);
        x.row(0, 2);
        Due.write(x, 0, "W5,3T2");
        x.laws(0, 0);
        x.text(1, 0);
        x.told(0, 4);
        x.fall(4, 3);
        return x;
    }

    /** A call that is not refused: what asked() tells behind it, and whether that is still so behind a refused one. */
    private static void isAsked(String call, ToIntFunction<ThinAir> run, int asked, ToIntFunction<ThinAir> refused) {
        ThinAir x = told();
        int answer = run.applyAsInt(x);
        Due.holds(call + " answered " + answer, answer >= 0);
        Due.is(call + ": asked()", x.asked(), asked);
        Due.is(call + ": asked() once more", x.asked(), asked);
        answer = refused.applyAsInt(x);
        Due.holds("refused " + call + " answered " + answer, answer < 0);
        Due.is("refused " + call + ": asked()", x.asked(), asked);
        ThinAir y = told();
        refused.applyAsInt(y);
        Due.is("refused " + call + " alone: asked()", y.asked(), 900);
    }

    private static void asked() {
        Sentence.holds(38, "What the latest lay(), mean(), told(), about(), number(), gives(), home(), span(),"
                + " pairs(), list(), listed(), gains(), next() that was not refused (nor NONE) told;", () -> {
            isAsked("lay(0, 0, 5)", x -> x.lay(0, 0, 5), 0, x -> x.lay(0, 2, 5));
            isAsked("mean(0)", x -> x.mean(0), 0, x -> x.mean(1));
            isAsked("told(1, 4)", x -> x.told(1, 4), 880, x -> x.told(3, 4));
            isAsked("about(0, 1)", x -> x.about(0, 1), 22, x -> x.about(1, 1));
            isAsked("number(0, 1)", x -> x.number(0, 1), 3, x -> x.number(1, 1));
            isAsked("gives(0, 0)", x -> x.gives(0, 0), 28 - 2, x -> x.gives(1, 0));
            isAsked("home(0, 0)", x -> x.home(0, 0), 874, x -> x.home(1, 0));
            isAsked("span(0, 0)", x -> x.span(0, 0), 874, x -> x.span(1, 0));
            isAsked("pairs(0)", x -> x.pairs(0), 1, x -> x.pairs(5));
            isAsked("pairs(1) of none", x -> x.pairs(1), NONE, x -> x.pairs(-1));
            isAsked("list(1)", x -> x.list(1), 0, x -> x.list(2));
            isAsked("listed(1, 1)", x -> x.listed(1, 1), 870, x -> x.listed(1, 2));
            isAsked("gains(1, 1)", x -> x.gains(1, 1), 0, x -> x.gains(1, 0));
            isAsked("next()", x -> x.next(), 1, x -> x.listed(1, -1));
            ThinAir gauged = new ThinAir();
            gauged.place(7, 0, 0, 0);
            gauged.about(0, 0);
            Due.is("next() NONE", gauged.next(), NONE);
            Due.is("asked() behind next() NONE", gauged.asked(), 7);
        });
        Sentence.holds(38, "0 before.", () -> {
            ThinAir x = new ThinAir();
            Due.is("asked() of a new one", x.asked(), 0);
            x.next();
            x.mean(0);
            Due.is("asked() behind NONE and refused ones", x.asked(), 0);
        });
    }

    private static void askedKept() {
        Sentence.holds(38, "What the latest", () -> {
            ThinAir x = told();
            x.row(1, 3);
            x.copy(1, 0, 1, 1, 1);
            x.tear(1);
            x.text(2, 1);
            x.put(2, 0, 7);
            x.later(1);
            x.place(0, 0, 0, 0);
            x.mark(5, 0, 5, 5, 0);
            x.row(4, 0);
            x.marks(5, 0, 4);
            x.help(3, 1, 1);
            x.tells(3, 1);
            x.strike(3, 1);
            x.fault(0, false);
            x.laws(1, 0);
            x.sure(0, 0, 1);
            x.turns(0, 0);
            x.learn(0);
            x.just(5);
            x.far(1);
            x.fall(1, 1);
            x.crowd(1, 2, 0, 1);
            x.count(0);
            x.finding();
            x.findings(1);
            x.digest();
            Due.is("asked() behind calls that don't tell by it", x.asked(), 900);
            ThinAir y = told();
            y.paper(0, 7);
            y.cut(1, 7);
            y.upper();
            y.lower();
            Due.is("asked() behind paper(), cut()", y.asked(), 900);
        });
    }

    /** Each call that tells a fraction, refused by an object that has nothing. */
    private static void refuseFractions(ThinAir x) {
        Due.finds(x, "learn(0)", () -> x.learn(0), NOUGHT);
        Due.finds(x, "just(0)", () -> x.just(0), NOUGHT);
        Due.finds(x, "far(0)", () -> x.far(0), NOTHING);
        Due.bad(x, "fall(0, 0)", () -> x.fall(0, 0));
        Due.finds(x, "crowd(0, 0, 0, 1)", () -> x.crowd(0, 0, 0, 1), NOTHING);
    }

    private static void upperAndLower() {
        Sentence.holds(39, "The upper number of the fraction that was told last; 0 before.", () -> {
            ThinAir x = new ThinAir();
            Due.is("upper() of a new one", x.upper(), 0);
            refuseFractions(x);
            Due.is("upper() behind refused ones", x.upper(), 0);
            x.fall(4, 3);
            Due.is("upper() of fall(4, 3)", x.upper(), 3);
            refuseFractions(x);
            Due.is("upper() behind refused ones", x.upper(), 3);
        });
        Sentence.holds(40, "Its lower number; 1 before.", () -> {
            ThinAir x = new ThinAir();
            Due.is("lower() of a new one", x.lower(), 1);
            refuseFractions(x);
            Due.is("lower() behind refused ones", x.lower(), 1);
            x.fall(4, 3);
            Due.is("lower() of fall(4, 3)", x.lower(), 7);
            refuseFractions(x);
            Due.is("lower() behind refused ones", x.lower(), 7);
        });
    }

    private static void areCounts(ThinAir x, String when, int... want) {
        for (int what = 0; what <= 7; what++) {
            Due.is(when + ": count(" + what + ")", x.count(what), want[what]);
        }
    }

    private static void count() {
        Sentence.holds(41, "0 TODAY, 1 PLACES, 2 MARKS, 3 HELPED ones (GAUGED, LATER, too), 4 STRUCK ones, 5 ROWS,"
                + " 6 TEXTS, 7 LAWS that are there.", () -> {
            ThinAir x = new ThinAir();
            areCounts(x, "none", 0, 0, 0, 0, 0, 0, 0, 0);
            x.later(9999);
            for (int p = 0; p < 8; p++) {
                x.place(0, 0, 0, 0);
            }
            for (int m = 0; m < 40; m++) {
                x.mark(0, 0, 1, 0, 0);
            }
            for (int r = 0; r < 6; r++) {
                x.row(r, 0);
            }
            for (int t = 0; t < 4; t++) {
                x.text(t, 0);
            }
            x.laws(0, 0);
            x.laws(1, 0);
            areCounts(x, "all", 9999, 8, 40, 0, 0, 6, 4, 2);
            x.mark(0, 0, 1, 0, 0);
            x.place(0, 0, 0, 0);
            areCounts(x, "FULL", 9999, 8, 40, 0, 0, 6, 4, 2);
            x.help(0, 1, NONE);
            x.help(1, 1, 0);
            x.paper(2, 1);
            x.cut(3, 1);
            areCounts(x, "one of each KIND", 9999, 8, 40, 3, 0, 6, 4, 2);
            for (int m = 0; m < 40; m++) {
                x.strike(m, 0);
                Due.is("count(3), " + m + " being STRUCK", x.count(3), Math.max(0, 2 - m));
                Due.is("count(4), " + m + " being STRUCK", x.count(4), m + 1);
            }
            for (int r = 0; r < 6; r++) {
                x.tear(r);
            }
            areCounts(x, "torn", 9999, 8, 40, 0, 40, 0, 4, 2);
        });
        Sentence.holds(41, "BAD.", () -> Due.within("count(what)", ToldBoundsTest::told, (x, v) -> x.count(v), 0, 7));
    }

    private static void finding() {
        Sentence.holds(42, "The latest FINDING (0 before any).", () -> {
            ThinAir x = told();
            Due.is("finding() before any", x.finding(), 0);
            x.told(9, 9);
            x.mark(0, 9, 0, 0, 0);
            Due.is("finding() behind BAD", x.finding(), 0);
            x.laws(0, 1);
            Due.write(x, 1, "x");
            Due.is("laws(0, 1)", x.laws(0, 1), ThinAir.STATE);
            Due.is("finding() behind STATE", x.finding(), 0);
            x.mean(5);
            Due.is("finding() NOTHING", x.finding(), NOTHING);
            x.lay(0, 2, 0);
            Due.is("finding() BEYOND", x.finding(), BEYOND);
            x.tells(0, 1);
            Due.is("finding() UNLIKE", x.finding(), UNLIKE);
            x.learn(1);
            Due.is("finding() NOUGHT", x.finding(), NOUGHT);
            x.row(0, -1);
            Due.is("finding() SIZE", x.finding(), SIZE);
            x.mean(5);
            Due.is("finding() NOTHING again", x.finding(), NOTHING);
            x.mean(0);
            Due.is("finding() behind one that was not refused", x.finding(), NOTHING);
        });
    }

    private static void findings() {
        Sentence.holds(43, "How often a FINDING (1 .. 5) was answered.", () -> {
            ThinAir x = told();
            for (int many = 0; many < 3; many++) {
                for (int f = 1; f <= 5; f++) {
                    Due.is("findings(" + f + ")", x.findings(f), many);
                }
                Due.finds(x, "mean(5)", () -> x.mean(5), NOTHING);
                Due.finds(x, "lay(0, 2, 0)", () -> x.lay(0, 2, 0), BEYOND);
                Due.finds(x, "tells(0, 1)", () -> x.tells(0, 1), UNLIKE);
                Due.finds(x, "learn(1)", () -> x.learn(1), NOUGHT);
                Due.finds(x, "row(0, -1)", () -> x.row(0, -1), SIZE);
            }
            ThinAir many = new ThinAir();
            for (int times = 1; times <= 500; times++) {
                many.tear(0);
            }
            Due.is("findings(1) of 500 calls", many.findings(1), 500);
        });
        Sentence.holds(43, "BAD.", () -> {
            Due.within("findings(f)", ToldBoundsTest::told, (x, v) -> x.findings(v), 1, 5);
            ThinAir x = told();
            x.mean(5);
            Due.bad(x, "findings(0)", () -> x.findings(0));
        });
    }

    private static long mix(long h, long... all) {
        for (long v : all) {
            h = 31 * h + v;
        }
        return h;
    }

    private static void digest() {
        Sentence.holds(44, "h = 17; then h = 31 h + v for each v: count() 0 to 7;", () -> {
            long[] missing = {-1, -1, -1, -1, -1, -1, -1, -1, -1, -1, -1, -1};
            Due.is("digest() of a new one", new ThinAir().digest(), mix(mix(17, 0, 0, 0, 0, 0, 0, 0, 0), missing));
            ThinAir x = new ThinAir();
            x.later(9999);
            Due.is("digest() of the last day", x.digest(), mix(mix(17, 9999, 0, 0, 0, 0, 0, 0, 0), missing));
        });
        Sentence.holds(44, "of each ROW its size (-1: missing) and places, of each TEXT likewise.", () -> {
            ThinAir x = new ThinAir();
            x.row(0, 0);
            Due.fill(x, 5, MIN, MAX, -1);
            x.text(0, 0);
            x.text(3, 3);
            x.put(3, 0, 127);
            x.put(3, 1, 128);
            Due.is("digest() of ROWS and TEXTS", x.digest(), mix(17, 0, 0, 0, 0, 0, 2, 2, 0, -1, -1,
                0, -1, -1, -1, -1, 3, MIN, MAX, -1, 0, -1, -1, 3, 127, -128, 32));
            x.row(5, 2);
            x.tear(0);
            Due.is("digest() of a lesser ROW", x.digest(), mix(17, 0, 0, 0, 0, 0, 1, 2, 0, -1, -1,
                -1, -1, -1, -1, -1, 2, 0, 0, 0, -1, -1, 3, 127, -128, 32));
            ThinAir full = new ThinAir();
            full.row(1, 40);
            long want = mix(17, 0, 0, 0, 0, 0, 1, 0, 0, -1, -1, -1, 40);
            for (int i = 0; i < 40; i++) {
                full.lay(1, i, i + 1);
                want = mix(want, i + 1);
            }
            Due.is("digest() of forty ints", full.digest(), mix(want, -1, -1, -1, -1, -1, -1, -1, -1));
        });
    }

    private static void digestOfEach() {
        Sentence.holds(44, "of each PLACE about() 0 to 3; of each MARK told() 0 to 6, what tells() tells by its own"
                + " KIND (KIND 0: 0);", () -> {
            ThinAir x = new ThinAir();
            x.place(40, -20, 1, 3);
            x.place(0, 50, 0, 0);
            x.later(9999);
            long[][] told = {{0, 0, 0, 9999, 1, NONE, 0, 0}, {1, 1, 1, 9999, 2, -60, 1, 999},
                {2, 2, 0, 9999, 3, 60, 2, 5}, {3, 3, 1, 9999, 4, 0, 3, 9999}, {4, 4, 0, 9999, 5, 1, 0, 998},
                {5, 11, 1, 9999, 9999, -1, 1, 99999}};
            for (long[] m : told) {
                x.mark((int) m[1], (int) m[2], (int) m[4], (int) m[5], (int) m[6]);
            }
            x.help(1, 999, NONE);
            x.help(2, 1, 5);
            x.paper(3, 1);
            x.cut(4, 998);
            x.strike(5, 9);
            long want = mix(17, 9999, 2, 6, 3, 1, 0, 0, 0, 40, -20, 1, 3, 0, 50, 0, 0);
            for (long[] m : told) {
                want = mix(want, m);
            }
            Due.is("digest()", x.digest(), mix(want, -1, -1, -1, -1, -1, -1, -1, -1, -1, -1, -1, -1));
        });
        Sentence.holds(44, "of each LAWS (-1 once: missing) number() 0 to 9;", () -> {
            ThinAir x = new ThinAir();
            Due.write(x, 0, "W-9,1H2,3T4F5S0:6S1:7S2:8S3:-99");
            x.laws(1, 0);
            x.text(0, 0);
            Due.is("digest() of LAWS 1", x.digest(), mix(17, 0, 0, 0, 0, 0, 0, 1, 1, -1,
                -9, 1, 2, 3, 4, 5, 6, 7, 8, -99, -1, -1, -1, -1, -1, -1, 0, -1, -1, -1));
            x.laws(0, 0);
            Due.is("digest() of LAWS 0, 1", x.digest(), mix(17, 0, 0, 0, 0, 0, 0, 1, 2,
                0, 0, 0, 0, 0, 0, 0, 0, 0, 0,
                -9, 1, 2, 3, 4, 5, 6, 7, 8, -99, -1, -1, -1, -1, -1, -1, 0, -1, -1, -1));
        });
    }
}
