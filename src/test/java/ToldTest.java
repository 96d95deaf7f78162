/** Promises 38 to 44: what is told. */
public final class ToldTest {
    private static final int NONE = ThinAir.NONE;
    private static final int NOTHING = 1, BEYOND = 2, UNLIKE = 3, NOUGHT = 4, SIZE = 5;

    public static void main(String[] args) {
        promise38();
        promise39And40();
        promise41();
        promise42And43();
        promise44New();
        promise44();
        promise44Unmoved();
        Due.end();
    }

    private static ThinAir full() {
        ThinAir x = new ThinAir();
        x.place(10, 22, 1, 2);
        x.mark(0, 0, 900, 5, 1);
        x.mark(0, 0, 880, 3, 1);
        x.mark(1, 0, 870, NONE, 0);
        x.row(0, 2);
        Due.write(x, 0, "W5,3T2");
        x.laws(0, 0);
        x.text(1, 0);
        return x;
    }

    private static void promise38() {
        ThinAir x = new ThinAir();
        Due.is("asked() before", x.asked(), 0);
        ThinAir y = full();
        Due.is("asked() before any", y.asked(), 0);
        y.lay(0, 0, 8);
        Due.is("asked() of lay()", y.asked(), 0);
        y.lay(0, 0, 8);
        Due.is("asked() of lay() again", y.asked(), 8);
        y.mean(0);
        Due.is("asked() of mean()", y.asked(), 4);
        y.told(0, 4);
        Due.is("asked() of told()", y.asked(), 900);
        y.about(0, 1);
        Due.is("asked() of about()", y.asked(), 22);
        y.number(0, 1);
        Due.is("asked() of number()", y.asked(), 3);
        y.gives(0, 0);
        Due.is("asked() of gives()", y.asked(), 5 + 5 + 4 + 4 + 4 + 4);
        y.home(0, 0);
        Due.is("asked() of home()", y.asked(), 900 - 26);
        y.span(0, 1);
        Due.is("asked() of span()", y.asked(), 880 - 18);
        y.pairs(0);
        Due.is("asked() of pairs()", y.asked(), 1);
        y.pairs(1);
        Due.is("asked() of pairs() of none", y.asked(), NONE);
        y.list(1);
        Due.is("asked() of list()", y.asked(), 0);
        y.listed(1, 1);
        Due.is("asked() of listed()", y.asked(), 870);
        y.gains(1, 1);
        Due.is("asked() of gains()", y.asked(), 0);
        y.next();
        Due.is("asked() of next()", y.asked(), 1);
        Due.is("asked() twice", y.asked(), 1);
    }

    private static void promise39And40() {
        ThinAir x = full();
        Due.is("upper() before", x.upper(), 0);
        Due.is("lower() before", x.lower(), 1);
        Due.fraction(x, "learn(0)", x.learn(0), 1, 10, 1);
        Due.fraction(x, "just(4)", x.just(4), 0, 1, 1);
        Due.fraction(x, "just(3)", x.just(3), 1, 9, 25);
        Due.fraction(x, "fall(2, 4)", x.fall(2, 4), 1, 2, 3);
        x.mark(2, 0, 850, 0, 0);
        Due.fraction(x, "far(1)", x.far(1), 3, 3, 2);
        Due.fraction(x, "crowd(1, 2, 0, 1)", x.crowd(1, 2, 0, 1), 1, 1, 1);
        x.fall(1, 3);
        x.just(50);
        x.fall(-1, 0);
        x.told(0, 0);
        Due.is("upper() still", x.upper(), 3);
        Due.is("lower() still", x.lower(), 4);
        x.mark(0, 0, 940, 1, 1);
        // 20 by 2, -40 by 4, -60 by 2.
        Due.fraction(x, "learn(0) below 0", x.learn(0), 3, -10, 1);
    }

    private static void areCounts(ThinAir x, String when, int... want) {
        for (int what = 0; what <= 7; what++) {
            Due.is(when + ": count(" + what + ")", x.count(what), want[what]);
        }
    }

    private static void promise41() {
        ThinAir x = full();
        areCounts(x, "full", 0, 1, 3, 0, 0, 1, 2, 1);
        x.later(5);
        x.place(0, 0, 0, 0);
        x.mark(3, 1, 5, 5, 0);
        x.help(0, 1, NONE);
        x.help(1, 1, 1);
        x.paper(2, 1);
        x.cut(3, 1);
        x.row(5, 0);
        x.row(5, 1);
        x.text(3, 0);
        x.laws(1, 0);
        areCounts(x, "more", 5, 2, 4, 3, 0, 2, 3, 2);
        x.strike(2, 0);
        x.strike(3, 0);
        x.tear(0);
        areCounts(x, "struck", 5, 2, 4, 2, 2, 1, 3, 2);
        x.strike(0, 0);
        areCounts(x, "mark 0 struck", 5, 2, 4, 1, 3, 1, 3, 2);
        Due.bad(x, "count(8)", () -> x.count(8));
        Due.bad(x, "count(-1)", () -> x.count(-1));
    }

    private static void promise42And43() {
        ThinAir x = full();
        Due.is("finding() before", x.finding(), 0);
        for (int f = 1; f <= 5; f++) {
            Due.is("findings(" + f + ") before", x.findings(f), 0);
        }
        Due.finds(x, "tear(1)", () -> x.tear(1), NOTHING);
        Due.finds(x, "tear(1)", () -> x.tear(1), NOTHING);
        Due.finds(x, "lay(0, 2, 0)", () -> x.lay(0, 2, 0), BEYOND);
        Due.finds(x, "tells(0, 1)", () -> x.tells(0, 1), UNLIKE);
        Due.finds(x, "learn(1)", () -> x.learn(1), NOUGHT);
        Due.finds(x, "row(0, -1)", () -> x.row(0, -1), SIZE);
        x.row(9, 9);
        x.pairs(9);
        Due.is("finding() behind BAD", x.finding(), SIZE);
        int[] want = {2, 1, 1, 1, 1};
        for (int f = 1; f <= 5; f++) {
            Due.is("findings(" + f + ")", x.findings(f), want[f - 1]);
        }
        Due.bad(x, "findings(0)", () -> x.findings(0));
        Due.bad(x, "findings(6)", () -> x.findings(6));
        Due.bad(x, "findings(-1)", () -> x.findings(-1));
    }

    private static long digestOf(long... all) {
        long h = 17;
        for (long v : all) {
            h = 31 * h + v;
        }
        return h;
    }

    private static void promise44New() {
        Due.is("digest() of a new one", new ThinAir().digest(),
            digestOf(0, 0, 0, 0, 0, 0, 0, 0, -1, -1, -1, -1, -1, -1, -1, -1, -1, -1, -1, -1));
    }

    private static void promise44() {
        ThinAir x = new ThinAir();
        x.place(40, -20, 1, 3);
        x.place(1, 2, 0, 0);
        x.later(3);
        x.mark(0, 0, 9, NONE, 0);
        x.mark(1, 1, 8, -7, 1);
        x.mark(2, 0, 7, 6, 2);
        x.mark(3, 1, 6, 5, 3);
        x.mark(4, 0, 5, 4, 0);
        x.mark(5, 1, 4, 3, 1);
        x.later(4);
        x.help(1, 21, NONE);
        x.help(2, 22, 5);
        x.paper(3, 23);
        x.cut(4, 24);
        x.strike(5, 2);
        Due.write(x, 1, "T-3");
        x.laws(1, 1);
        x.put(1, 2, 255);
        x.text(3, 0);
        x.row(0, 0);
        x.row(4, 2);
        x.lay(4, 1, -5);
        Due.is("digest()", x.digest(), digestOf(
            7, 2, 6, 3, 1, 2, 2, 1,
            40, -20, 1, 3, 1, 2, 0, 0,
            0, 0, 0, 3, 9, NONE, 0, 0,
            1, 1, 1, 3, 8, -7, 1, 21,
            2, 2, 0, 3, 7, 6, 2, 5,
            3, 3, 1, 3, 6, 5, 3, 7,
            4, 4, 0, 3, 5, 4, 0, 24,
            5, 5, 1, 3, 4, 3, 1, 20007,
            -1,
            0, 0, 0, 0, -3, 0, 0, 0, 0, 0,
            0, -1, -1, -1, 2, 0, -5, -1,
            -1, 3, 'T', '-', -1, -1, 0));
    }

    private static void promise44Unmoved() {
        ThinAir x = full();
        x.fall(3, 4);
        x.told(0, 4);
        long first = x.digest();
        Due.is("digest() twice", x.digest(), first);
        Due.is("asked() unmoved by digest()", x.asked(), 900);
        Due.is("upper() unmoved by digest()", x.upper(), 4);
        Due.is("finding() unmoved by digest()", x.finding(), 0);
    }
}
