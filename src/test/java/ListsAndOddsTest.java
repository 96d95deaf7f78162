/** Promises 28 to 37: learnt, lists, odds. */
public final class ListsAndOddsTest {
    private static final int NONE = ThinAir.NONE;
    private static final int NOTHING = 1, NOUGHT = 4;

    public static void main(String[] args) {
        promise28Each();
        promise28NoPairs();
        promise29();
        promise30();
        promise31Items();
        promise31Order();
        promise31Refused();
        promise32();
        promise33();
        promise34();
        promise35();
        promise36();
        promise37();
        Due.end();
    }

    private static ThinAir withPlaces() {
        ThinAir x = new ThinAir();
        x.place(10, 20, 0, 0);
        x.place(12, 20, 0, 1);
        x.place(10, 25, 0, 2);
        x.place(10, 20, 1, 3);
        x.place(10, 20, 0, 3);
        return x;
    }

    private static void arePairs(ThinAir x, String when, int which, int many, int first) {
        Due.tells(x, when + ": pairs(" + which + ")", x.pairs(which), many, first);
    }

    private static void promise28Each() {
        ThinAir x = withPlaces();
        x.mark(1, 0, 500, 7, 2);
        for (int which = 0; which < 5; which++) {
            arePairs(x, "a lone mark", which, 0, NONE);
        }
        x.mark(1, 0, 510, 9, 2);
        x.mark(1, 1, 520, 7, 2);
        x.mark(1, 2, 530, 7, 2);
        x.mark(1, 3, 540, 7, 2);
        x.mark(1, 0, 550, 7, 3);
        x.mark(1, 4, 560, 7, 2);
        arePairs(x, "each", 0, 2, 1);
        arePairs(x, "each", 1, 2, 2);
        arePairs(x, "each", 2, 2, 3);
        arePairs(x, "each", 3, 2, 4);
        arePairs(x, "each", 4, 2, 5);
        Due.bad(x, "pairs(5)", () -> x.pairs(5));
        Due.bad(x, "pairs(-1)", () -> x.pairs(-1));
    }

    private static void promise28NoPairs() {
        ThinAir x = withPlaces();
        x.mark(1, 0, 500, 7, 2);
        x.mark(2, 0, 500, 9, 2);
        arePairs(x, "of two persons", 0, 0, NONE);
        x.mark(1, 1, 500, 9, 2);
        arePairs(x, "unlike in two", 0, 0, NONE);
        arePairs(x, "unlike in two", 1, 0, NONE);
        x.mark(1, 0, 500, NONE, 2);
        arePairs(x, "one not gauged", 0, 0, NONE);
        x.mark(1, 0, 500, NONE, 1);
        arePairs(x, "both not gauged, shoes", 4, 1, 304);
        arePairs(x, "both not gauged, wind", 0, 0, NONE);
        x.later(364);
        x.mark(2, 0, 500, 8, 2);
        arePairs(x, "364 days", 0, 1, 105);
        x.later(1);
        x.mark(2, 0, 500, 6, 2);
        arePairs(x, "365 days", 0, 2, 105);
        x.mark(2, 0, 500, 5, 2);
        arePairs(x, "and one more", 0, 4, 105);
        x.cut(5, 1);
        arePairs(x, "a SHORT one", 0, 1, 607);
        x.mark(2, 0, 500, 4, 2);
        arePairs(x, "three left", 0, 3, 607);
        x.strike(6, 0);
        arePairs(x, "a STRUCK one", 0, 1, 708);
        x.help(7, 1, NONE);
        arePairs(x, "a HELPED one", 0, 0, NONE);
        x.mark(2, 0, 500, 3, 2);
        arePairs(x, "two", 0, 1, 809);
        x.help(8, 1, 2);
        arePairs(x, "a GAUGED one", 0, 0, NONE);
        x.mark(2, 0, 500, 2, 2);
        arePairs(x, "two again", 0, 1, 910);
        x.paper(9, 1);
        arePairs(x, "a LATER one", 0, 0, NONE);
    }

    private static void promise29() {
        ThinAir x = withPlaces();
        x.mark(0, 0, 100, 5, 0);
        x.mark(0, 0, 130, -5, 0);
        x.mark(0, 1, 104, 5, 0);
        Due.fraction(x, "learn(0)", x.learn(0), 1, -3, 1);
        Due.fraction(x, "learn(1)", x.learn(1), 1, 2, 1);
        Due.finds(x, "learn(2)", () -> x.learn(2), NOUGHT);
        x.mark(0, 2, 100, 5, 0);
        Due.fraction(x, "learn(2) of alike values", x.learn(2), 1, 0, 1);
        x.mark(0, 3, 99, 5, 0);
        Due.fraction(x, "learn(3)", x.learn(3), 1, -1, 1);
        x.mark(0, 0, 111, 11, 0);
        Due.fraction(x, "learn(0) of three", x.learn(0), 3, -19, 16);
        x.mark(1, 3, 250, 0, 0);
        x.mark(1, 0, 200, 0, 0);
        Due.fraction(x, "learn(3), the greater ahead", x.learn(3), 2, 49, 2);
        Due.bad(x, "learn(4)", () -> x.learn(4));
        Due.bad(x, "learn(-1)", () -> x.learn(-1));
        Due.is("asked() unmoved by learn()", x.asked(), 0);
    }

    private static ThinAir withWinds(int... winds) {
        ThinAir x = new ThinAir();
        x.place(0, 20, 0, 0);
        for (int wind : winds) {
            x.mark(0, 0, 100, wind, 0);
        }
        return x;
    }

    private static void promise30() {
        ThinAir x = withWinds(20, 20, 20, 21, NONE, 17, 23);
        Due.fraction(x, "just(20)", x.just(20), 3, 17, 625);
        Due.fraction(x, "just(22)", x.just(22), 0, 1, 1);
        Due.finds(x, "just(30)", () -> x.just(30), NOUGHT);
        Due.finds(x, "just(14)", () -> x.just(14), NOUGHT);
        Due.fraction(x, "just(15)", x.just(15), 0, 1, 1);
        Due.fraction(x, "just(25)", x.just(25), 0, 1, 1);
        Due.bad(x, "just(59)", () -> x.just(59));
        Due.bad(x, "just(-59)", () -> x.just(-59));
        ThinAir edge = withWinds(60, -60, 58, -58);
        Due.fraction(edge, "just(58)", edge.just(58), 1, 9, 25);
        Due.fraction(edge, "just(-58)", edge.just(-58), 1, 9, 25);
        int[] alike = new int[25];
        java.util.Arrays.fill(alike, 3);
        alike[21] = 2;
        ThinAir many = withWinds(alike);
        Due.fraction(many, "just(3) of the first 20", many.just(3), 20, 1, 95367431640625L);
        java.util.Arrays.fill(alike, 4);
        ThinAir none = withWinds(alike);
        Due.fraction(none, "just(3) of none", none.just(3), 0, 1, 1);
        for (int i = 0; i < 10; i++) {
            alike[i] = 3;
        }
        ThinAir half = withWinds(alike);
        half.strike(0, 0);
        Due.fraction(half, "just(3) of ten", half.just(3), 10, 247462024753L, 95367431640625L);
    }

    private static void isList(ThinAir x, String rules, int... want) {
        Due.write(x, 3, rules);
        Due.tells(x, "list(3) by '" + rules + "'", x.list(3), want.length, want.length == 0 ? NONE : want[0]);
        for (int i = 0; i < want.length; i++) {
            Due.is("listed(3, " + i + ") by '" + rules + "'", x.listed(3, i), want[i]);
        }
    }

    private static void promise31Items() {
        ThinAir x = new ThinAir();
        x.place(22, 30, 1, 0);
        x.place(0, 20, 0, 1);
        x.mark(0, 0, 900, 20, 0);
        x.mark(1, 1, 890, 21, 1);
        x.mark(2, 1, 880, NONE, 2);
        x.mark(3, 1, 870, -60, 3);
        x.later(365);
        x.mark(4, 1, 860, 0, 0);
        x.mark(5, 1, 850, 0, 0);
        x.mark(6, 1, 840, 0, 0);
        x.strike(4, 0);
        x.paper(5, 100);
        x.cut(6, 100);
        isList(x, "", 0, 1, 2, 3, 4, 5, 6);
        isList(x, "w20", 0, 3, 4, 5, 6);
        isList(x, "w21", 0, 1, 3, 4, 5, 6);
        isList(x, "w99", 0, 1, 3, 4, 5, 6);
        isList(x, "w99w0", 3, 4, 5, 6);
        isList(x, "w0w99", 3, 4, 5, 6);
        isList(x, "h21", 1, 2, 3, 4, 5, 6);
        isList(x, "h22", 0, 1, 2, 3, 4, 5, 6);
        isList(x, "h0 h40", 1, 2, 3, 4, 5, 6);
        isList(x, "s0", 1, 2, 3);
        isList(x, "s1s3", 0, 2, 4, 5, 6);
        isList(x, "y0", 0, 1, 2, 3, 4, 5, 6);
        isList(x, "y1", 4, 5, 6);
        isList(x, "y1y0", 4, 5, 6);
        isList(x, "y2");
        isList(x, "k", 0, 1, 2, 3, 5, 6);
        isList(x, "d", 0, 1, 2, 3, 4, 6);
        isList(x, "t", 0, 1, 2, 3, 4, 5);
        isList(x, "kdt y1");
        Due.write(x, 0, "F5 T1");
        x.laws(0, 0);
        isList(x, "v", 1, 0, 2, 3, 4, 5, 6);
        Due.tells(x, "listed(3, 1) by v", x.listed(3, 1), 0, 885);
        Due.tells(x, "listed(3, 5) by v", x.listed(3, 5), 5, 750);
        isList(x, "v s1", 0, 2, 3, 4, 5, 6);
    }

    private static void promise31Order() {
        ThinAir x = withPlaces();
        x.mark(3, 0, 500, 0, 0);
        x.mark(1, 0, 600, 0, 1);
        x.mark(2, 0, 500, 0, 0);
        x.mark(1, 0, 600, 0, 0);
        x.mark(3, 0, 500, 0, 0);
        x.mark(0, 0, 600, 0, 0);
        isList(x, "", 1, 5, 0, 2);
        isList(x, "s1", 3, 5, 0, 2);
        x.mark(2, 0, 700, 0, 0);
        isList(x, "", 6, 1, 5, 0);
        for (int m = 0; m < 33; m++) {
            x.mark(m % 12, 0, 700 + m % 3, 0, 0);
        }
        isList(x, "", 9, 12, 15, 18, 8, 11, 14, 17, 7, 10, 13, 16);
    }

    private static void promise31Refused() {
        ThinAir x = withPlaces();
        x.mark(0, 0, 1, 0, 0);
        Due.bad(x, "list(4)", () -> x.list(4));
        Due.bad(x, "list(-1)", () -> x.list(-1));
        Due.finds(x, "list(0)", () -> x.list(0), NOTHING);
        Due.write(x, 0, "v");
        Due.finds(x, "list(0) without LAWS 0", () -> x.list(0), NOTHING);
        Due.write(x, 1, "T1");
        x.laws(1, 1);
        Due.finds(x, "list(0) with LAWS 1 alone", () -> x.list(0), NOTHING);
        Due.write(x, 0, "vx");
        Due.refuses(x, "list(0) with a FAULT", () -> x.list(0), ThinAir.STATE);
        x.laws(0, 1);
        Due.write(x, 0, "v");
        Due.tells(x, "list(0) with LAWS 0", x.list(0), 1, 0);
    }

    private static void promise32() {
        ThinAir x = withPlaces();
        x.mark(0, 0, 100, 0, 0);
        x.mark(1, 0, 200, 0, 0);
        x.text(0, 0);
        Due.tells(x, "listed(0, 0)", x.listed(0, 0), 1, 200);
        Due.tells(x, "listed(0, 1)", x.listed(0, 1), 0, 100);
        Due.refuses(x, "listed(0, 2)", () -> x.listed(0, 2), NONE);
        Due.refuses(x, "listed(0, MAX)", () -> x.listed(0, Integer.MAX_VALUE), NONE);
        Due.bad(x, "listed(0, -1)", () -> x.listed(0, -1));
        Due.bad(x, "listed(1, -1)", () -> x.listed(1, -1));
        Due.bad(x, "listed(4, 0)", () -> x.listed(4, 0));
        Due.finds(x, "listed(1, 0)", () -> x.listed(1, 0), NOTHING);
        Due.finds(x, "listed(1, 99)", () -> x.listed(1, 99), NOTHING);
        Due.write(x, 1, "v");
        Due.finds(x, "listed(1, 0) without LAWS 0", () -> x.listed(1, 0), NOTHING);
        Due.write(x, 1, "v1");
        Due.refuses(x, "listed(1, 0) with a FAULT", () -> x.listed(1, 0), ThinAir.STATE);
    }

    private static void promise33() {
        ThinAir x = withPlaces();
        x.mark(0, 0, 900, 0, 1);
        x.mark(11, 0, 800, 0, 0);
        x.mark(5, 0, 700, 0, 0);
        x.mark(0, 0, 750, 0, 0);
        x.mark(7, 0, 600, 0, 2);
        x.text(0, 0);
        Due.write(x, 1, "s1");
        Due.write(x, 2, "s0");
        Due.tells(x, "gains(0, 1)", x.gains(0, 1), 1, 1);
        Due.tells(x, "gains(1, 0)", x.gains(1, 0), 1, 1 << 11);
        Due.tells(x, "gains(0, 2)", x.gains(0, 2), 2, 1 << 11 | 1 << 5);
        Due.tells(x, "gains(2, 0)", x.gains(2, 0), 1, 1 << 7);
        Due.tells(x, "gains(0, 0)", x.gains(0, 0), 0, 0);
        Due.bad(x, "gains(4, 0)", () -> x.gains(4, 0));
        Due.bad(x, "gains(3, 4)", () -> x.gains(3, 4));
        Due.bad(x, "gains(0, -1)", () -> x.gains(0, -1));
        Due.finds(x, "gains(0, 3)", () -> x.gains(0, 3), NOTHING);
        Due.finds(x, "gains(3, 0)", () -> x.gains(3, 0), NOTHING);
        Due.write(x, 2, "s");
        Due.finds(x, "gains(2, 3): NOTHING ahead of STATE", () -> x.gains(2, 3), NOTHING);
        Due.refuses(x, "gains(2, 0)", () -> x.gains(2, 0), ThinAir.STATE);
        Due.refuses(x, "gains(0, 2)", () -> x.gains(0, 2), ThinAir.STATE);
        Due.write(x, 3, "v");
        Due.refuses(x, "gains(3, 2): STATE ahead of LAWS", () -> x.gains(3, 2), ThinAir.STATE);
        Due.finds(x, "gains(3, 0) without LAWS 0", () -> x.gains(3, 0), NOTHING);
        Due.finds(x, "gains(0, 3) without LAWS 0", () -> x.gains(0, 3), NOTHING);
        Due.write(x, 2, "S1:99S0:-99");
        x.laws(0, 2);
        Due.tells(x, "gains(3, 0) by HOMES", x.gains(3, 0), 1, 1 << 11);
        Due.tells(x, "gains(0, 3) by VALUES", x.gains(0, 3), 1, 1);
    }

    private static void promise34() {
        ThinAir x = withPlaces();
        x.text(0, 0);
        Due.finds(x, "far(0) of none", () -> x.far(0), NOUGHT);
        x.mark(0, 0, 900, 0, 0);
        x.mark(1, 0, 800, 0, 0);
        Due.finds(x, "far(0) of two", () -> x.far(0), NOUGHT);
        x.mark(2, 0, 800, 0, 0);
        Due.finds(x, "far(0): the second as the last", () -> x.far(0), NOUGHT);
        x.mark(3, 0, 760, 0, 0);
        Due.fraction(x, "far(0)", x.far(0), 4, 5, 2);
        x.mark(4, 0, 900, 0, 0);
        Due.fraction(x, "far(0) of nought", x.far(0), 5, 0, 1);
        Due.bad(x, "far(4)", () -> x.far(4));
        Due.bad(x, "far(-1)", () -> x.far(-1));
        Due.finds(x, "far(1)", () -> x.far(1), NOTHING);
        Due.write(x, 1, "v");
        Due.finds(x, "far(1) without LAWS 0", () -> x.far(1), NOTHING);
        Due.write(x, 1, "V");
        Due.refuses(x, "far(1) with a FAULT", () -> x.far(1), ThinAir.STATE);
        Due.is("asked() unmoved by far()", x.asked(), 0);
    }

    private static void promise35() {
        ThinAir x = new ThinAir();
        Due.fraction(x, "fall(5, 1)", x.fall(5, 1), 1, 1, 6);
        Due.fraction(x, "fall(0, 9999)", x.fall(0, 9999), 1, 1, 1);
        Due.fraction(x, "fall(9999, 1)", x.fall(9999, 1), 1, 1, 10000);
        Due.fraction(x, "fall(6, 9)", x.fall(6, 9), 1, 3, 5);
        Due.bad(x, "fall(-1, 1)", () -> x.fall(-1, 1));
        Due.bad(x, "fall(10000, 1)", () -> x.fall(10000, 1));
        Due.bad(x, "fall(1, 0)", () -> x.fall(1, 0));
        Due.bad(x, "fall(1, 10000)", () -> x.fall(1, 10000));
    }

    private static void promise36() {
        ThinAir x = withPlaces();
        for (int m = 0; m < 5; m++) {
            x.mark(0, 0, 900 - m, 0, 0);
        }
        for (int m = 0; m < 4; m++) {
            x.mark(0, 1, 897 - m, 0, 1);
        }
        x.text(0, 0);
        // 900 899 898 897 897' 896 896' 895' 894': of alike ones those told first.
        Due.fraction(x, "crowd(0, 0, 0, 4)", x.crowd(0, 0, 0, 4), 4, 5, 126);
        Due.fraction(x, "crowd(0, 0, 0, 5)", x.crowd(0, 0, 0, 5), 4, 1, 6);
        Due.fraction(x, "crowd(0, 1, 0, 4)", x.crowd(0, 1, 0, 4), 0, 1, 1);
        Due.fraction(x, "crowd(0, 1, 0, 5)", x.crowd(0, 1, 0, 5), 1, 125, 126);
        Due.fraction(x, "crowd(0, 1, 0, 7)", x.crowd(0, 1, 0, 7), 2, 1, 1);
        Due.fraction(x, "crowd(0, 1, 0, 9)", x.crowd(0, 1, 0, 9), 4, 1, 1);
        Due.finds(x, "crowd(0, 1, 0, 10)", () -> x.crowd(0, 1, 0, 10), NOUGHT);
        Due.finds(x, "crowd(0, 2, 0, 1)", () -> x.crowd(0, 2, 0, 1), NOUGHT);
        Due.finds(x, "crowd(0, 0, 1, 1)", () -> x.crowd(0, 0, 1, 1), NOUGHT);
        x.later(364);
        x.mark(1, 2, 999, 0, 0);
        Due.fraction(x, "crowd(0, 2, 0, 1)", x.crowd(0, 2, 0, 1), 1, 1, 10);
        x.later(1);
        x.mark(1, 2, 1000, 0, 0);
        Due.fraction(x, "crowd(0, 2, 1, 1)", x.crowd(0, 2, 1, 1), 1, 1, 11);
        Due.fraction(x, "crowd(0, 2, 0, 1)", x.crowd(0, 2, 0, 1), 0, 1, 1);
        Due.write(x, 0, "s0");
        Due.fraction(x, "crowd(0, 1, 0, 2)", x.crowd(0, 1, 0, 2), 2, 1, 1);
        Due.write(x, 1, "S0:50S1:-49");
        Due.write(x, 0, "v y0");
        Due.finds(x, "crowd(0, 0, 0, 2) without LAWS 0", () -> x.crowd(0, 0, 0, 2), NOTHING);
        x.laws(0, 1);
        Due.fraction(x, "crowd(0, 1, 0, 3) by HOMES", x.crowd(0, 1, 0, 3), 1, 26, 33);
        crowdRefused(x);
    }

    private static void crowdRefused(ThinAir x) {
        Due.bad(x, "crowd(4, 0, 0, 1)", () -> x.crowd(4, 0, 0, 1));
        Due.bad(x, "crowd(-1, 0, 0, 1)", () -> x.crowd(-1, 0, 0, 1));
        Due.bad(x, "crowd(0, 4, 0, 1)", () -> x.crowd(0, 4, 0, 1));
        Due.bad(x, "crowd(0, -1, 0, 1)", () -> x.crowd(0, -1, 0, 1));
        Due.bad(x, "crowd(0, 0, 28, 1)", () -> x.crowd(0, 0, 28, 1));
        Due.bad(x, "crowd(0, 0, -1, 1)", () -> x.crowd(0, 0, -1, 1));
        Due.bad(x, "crowd(0, 0, 0, 0)", () -> x.crowd(0, 0, 0, 0));
        Due.bad(x, "crowd(0, 0, 0, 41)", () -> x.crowd(0, 0, 0, 41));
        Due.finds(x, "crowd(0, 3, 0, 1)", () -> x.crowd(0, 3, 0, 1), NOUGHT);
        Due.finds(x, "crowd(0, 0, 27, 40)", () -> x.crowd(0, 0, 27, 40), NOUGHT);
        Due.finds(x, "crowd(2, 0, 0, 1)", () -> x.crowd(2, 0, 0, 1), NOTHING);
        Due.write(x, 2, "s4");
        Due.refuses(x, "crowd(2, 0, 0, 1) with a FAULT", () -> x.crowd(2, 0, 0, 1), ThinAir.STATE);
        Due.is("asked() unmoved by crowd()", x.asked(), 0);
    }

    private static void promise37() {
        ThinAir x = withPlaces();
        Due.refuses(x, "next() of none", () -> x.next(), NONE);
        x.mark(0, 0, 100, 0, 0);
        Due.refuses(x, "next(): all gauged", () -> x.next(), NONE);
        x.mark(0, 3, 100, NONE, 0);
        Due.tells(x, "next() of one", x.next(), 3, 1);
        x.mark(0, 1, 100, NONE, 0);
        Due.tells(x, "next() of alike ones", x.next(), 1, 1);
        x.mark(1, 3, 100, NONE, 0);
        Due.tells(x, "next() of more", x.next(), 3, 2);
        x.strike(1, 0);
        Due.tells(x, "next(): a STRUCK one counts", x.next(), 3, 2);
        ThinAir first = withPlaces();
        first.mark(0, 2, 100, NONE, 0);
        Due.tells(first, "next() of mark 0", first.next(), 2, 1);
    }
}
