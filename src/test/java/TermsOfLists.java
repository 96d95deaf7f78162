/** Part 3 of the document's Terms at its boundaries: pairs, gauges, rules, lists, odds. */
final class TermsOfLists {
    private static final int NONE = ThinAir.NONE;
    private static final int NOUGHT = 4;

    private TermsOfLists() { }

    static void run() {
        pairs();
        just();
        rules();
        rulesOfKinds();
        lists();
        odds();
        crowds();
        next();
    }

    private static ThinAir withPlaces() {
        ThinAir x = new ThinAir();
        x.place(10, 20, 0, 0);
        x.place(11, 20, 0, 1);
        x.place(9, 20, 0, 2);
        return x;
    }

    private static void pairs() {
        Sentence.ofTerms("PAIRS are two MARKS (lesser, greater) of one PERSON, less than 365 days from one another,"
                + " both not HELPED (nor GAUGED, LATER), SHORT, STRUCK, alike in all of WIND (both gauged, or"
                + " alike), HEIGHT, HEAT, FLOOR, SHOE but one.", () -> {
            ThinAir x = withPlaces();
            x.mark(1, 0, 100, 5, 1);
            x.mark(2, 1, 100, 5, 1);
            Due.tells(x, "pairs(1) of two PERSONS", x.pairs(1), 0, NONE);
            x.later(364);
            x.mark(1, 1, 100, 5, 1);
            Due.tells(x, "pairs(1), 364 days", x.pairs(1), 1, 2);
            x.later(1);
            x.mark(1, 1, 100, 5, 1);
            Due.tells(x, "pairs(1), 365 days", x.pairs(1), 1, 2);
            x.mark(2, 0, 100, 5, 1);
            Due.tells(x, "pairs(1), 365 days of another PERSON", x.pairs(1), 1, 2);
            x.mark(1, 2, 100, 5, 1);
            Due.tells(x, "pairs(1), two more", x.pairs(1), 3, 2);
            x.mark(1, 0, 100, NONE, 1);
            Due.tells(x, "pairs(1), one not gauged", x.pairs(1), 3, 2);
            x.mark(1, 1, 100, NONE, 1);
            Due.tells(x, "pairs(1), both not gauged", x.pairs(1), 4, 2);
            Due.tells(x, "pairs(0), one not gauged", x.pairs(0), 0, NONE);
            x.strike(2, 0);
            Due.tells(x, "pairs(1), one STRUCK", x.pairs(1), 2, 305);
        });
        Sentence.ofTerms("LEARNT of one: of all PAIRS unlike in it alone: differences of VALUES (the one with the"
                + " greater number of it less the other) together by differences of it together.", () -> {
            ThinAir x = withPlaces();
            x.mark(1, 0, 100, 5, 1);
            Due.finds(x, "learn(1) of none", () -> x.learn(1), NOUGHT);
            x.mark(1, 1, 106, 5, 1);
            Due.fraction(x, "learn(1), the greater one told last", x.learn(1), 1, 6, 1);
            x.mark(1, 2, 99, 5, 1);
            // 6 by 1, 1 by 1, 7 by 2
            Due.fraction(x, "learn(1), the lesser one told last", x.learn(1), 3, 7, 2);
            x.mark(1, 2, 100, 4, 1);
            Due.fraction(x, "learn(1), one unlike in two", x.learn(1), 3, 7, 2);
            Due.fraction(x, "learn(0)", x.learn(0), 1, -1, 1);
        });
    }

    private static void just() {
        Sentence.ofTerms("JUST: of the first 20 MARKS (gauged) with a WIND w less 2 to w and 2 how many are w: odds"
                + " that of so many, each of these five alike likely, as many or more are w.", () -> {
            ThinAir x = withPlaces();
            for (int wind : new int[] {NONE, 17, 23, 18, 22}) {
                x.mark(0, 0, 100, wind, 0);
            }
            Due.fraction(x, "just(20) of none", x.just(20), 0, 1, 1);
            x.mark(0, 0, 100, 20, 0);
            Due.fraction(x, "just(20): one of three", x.just(20), 1, 61, 125);
            x.mark(0, 0, 100, 20, 0);
            Due.fraction(x, "just(20): two of four", x.just(20), 2, 113, 625);
            ThinAir y = withPlaces();
            y.mark(0, 0, 100, 20, 0);
            Due.fraction(y, "just(20): one of one", y.just(20), 1, 1, 5);
            for (int m = 1; m < 19; m++) {
                y.mark(0, 0, 100, 20, 0);
            }
            Due.fraction(y, "just(20): 19 of 19", y.just(20), 19, 1, 19073486328125L);
            y.mark(0, 0, 100, 21, 0);
            Due.fraction(y, "just(20): 19 of 20", y.just(20), 19, 81, 95367431640625L);
            y.mark(0, 0, 100, 20, 0);
            Due.fraction(y, "just(20): the 21st is not of the first 20", y.just(20), 19, 81, 95367431640625L);
        });
    }

    private static void lets(ThinAir x, String signs, int... want) {
        Due.write(x, 0, signs);
        Due.is("list(0) by '" + signs + "'", x.list(0), want.length);
        for (int i = 0; i < want.length; i++) {
            Due.is("listed(0, " + i + ") by '" + signs + "'", x.listed(0, i), want[i]);
        }
    }

    private static void rules() {
        Sentence.ofTerms("RULES are a TEXT: blanks likewise; items:", () -> {
            ThinAir x = withPlaces();
            x.mark(0, 0, 900, 0, 0);
            x.mark(1, 0, 800, 0, 1);
            lets(x, "", 0, 1);
            lets(x, " ".repeat(40), 0, 1);
            lets(x, "s0k", 1);
            lets(x, " ".repeat(38) + "s0", 1);
            lets(x, "s0" + " ".repeat(38), 1);
            lets(x, " s0 " + " ".repeat(33) + " s1");
            Due.write(x, 0, "s 0");
            Due.state(x, "list(0) of a blank inside of an item", () -> x.list(0));
        });
        Sentence.ofTerms("w n (119: WIND gauged, and n tenths at most), h n (104: HEIGHT n at most), s k (115: not"
                + " SHOE k), y n (121: of YEAR n on),", () -> {
            ThinAir x = withPlaces();
            int[] winds = {9, 10, 11, NONE, -60, 60, 0, 1};
            for (int m = 0; m < 8; m++) {
                x.mark(m, m % 3, 900 - m, winds[m], m % 4);
            }
            lets(x, "w9", 0, 4, 6, 7);
            lets(x, "w10", 0, 1, 4, 6, 7);
            lets(x, "w11", 0, 1, 2, 4, 6, 7);
            lets(x, "w0", 4, 6);
            lets(x, "w59", 0, 1, 2, 4, 6, 7);
            lets(x, "w60", 0, 1, 2, 4, 5, 6, 7);
            lets(x, "w99", 0, 1, 2, 4, 5, 6, 7);
            lets(x, "h8");
            lets(x, "h9", 2, 5);
            lets(x, "h10", 0, 2, 3, 5, 6);
            lets(x, "h11", 0, 1, 2, 3, 4, 5, 6, 7);
            lets(x, "s0", 1, 2, 3, 5, 6, 7);
            lets(x, "s3", 0, 1, 2, 4, 5, 6);
            lets(x, "s0s1s2", 3, 7);
            lets(x, "w10h10s0", 6);
            lets(x, "y0", 0, 1, 2, 3, 4, 5, 6, 7);
            lets(x, "y1");
        });
        Sentence.ofTerms("n: one or two figures, k one.", () -> {
            ThinAir x = withPlaces();
            x.later(9999);
            x.mark(0, 1, 900, 9, 0);
            lets(x, "w8");
            lets(x, "w9", 0);
            lets(x, "w08");
            lets(x, "w09", 0);
            lets(x, "h10");
            lets(x, "h11", 0);
            lets(x, "y27", 0);
            lets(x, "y28");
            lets(x, "y99");
            lets(x, "h99", 0);
        });
    }

    private static void rulesOfKinds() {
        Sentence.ofTerms("k (107: not STRUCK as of TODAY), d (100: not LATER), t (116: not SHORT), v (118: by LAWS"
                + " 0, HOME counts; else VALUES);", () -> {
            ThinAir x = withPlaces();
            for (int m = 0; m < 6; m++) {
                x.mark(m, 0, 900 - m, 0, m % 4);
            }
            x.help(1, 1, NONE);
            x.help(2, 1, 0);
            x.paper(3, 1);
            x.cut(4, 1);
            x.later(9);
            x.strike(5, 0);
            lets(x, "", 0, 1, 2, 3, 4, 5);
            lets(x, "k", 0, 1, 2, 3, 4);
            lets(x, "d", 0, 1, 2, 4, 5);
            lets(x, "t", 0, 1, 2, 3, 5);
            lets(x, "kdt", 0, 1, 2);
            x.strike(3, 0);
            lets(x, "d", 0, 1, 2, 3, 4, 5);
            lets(x, "k", 0, 1, 2, 4);
            Due.write(x, 1, "S0:3S3:-3");
            x.laws(0, 1);
            // Homes: 897, 898, 897, 900, 892, 895.
            lets(x, "v", 3, 1, 0, 2, 5, 4);
            Due.tells(x, "listed(0, 0) by 'v'", x.listed(0, 0), 3, 900);
            lets(x, "kv", 1, 0, 2, 4);
            Due.tells(x, "listed(0, 3) by 'kv'", x.listed(0, 3), 4, 892);
        });
    }

    private static void lists() {
        Sentence.ofTerms("A LIST by RULES: of each PERSON the best MARK that all items let (the first of alike"
                + " ones), the greatest first, of alike ones the MARK told first.", () -> {
            ThinAir x = withPlaces();
            lets(x, "");
            x.mark(5, 0, 100, 0, 0);
            lets(x, "", 0);
            x.mark(5, 0, 100, 0, 1);
            lets(x, "", 0);
            lets(x, "s0", 1);
            x.mark(4, 0, 100, 0, 0);
            lets(x, "", 0, 2);
            lets(x, "s0", 1);
            x.mark(4, 0, 101, 0, 1);
            lets(x, "", 3, 0);
            lets(x, "s1", 0, 2);
            x.mark(5, 0, 101, 0, 0);
            lets(x, "", 3, 4);
            lets(x, "s0", 3, 1);
            x.mark(11, 0, 9999, 0, 0);
            x.mark(0, 0, 1, 0, 0);
            lets(x, "", 5, 3, 4, 6);
        });
    }

    private static void odds() {
        Sentence.ofTerms("FAR: by a LIST: (the first less the second) by (the second less the last).", () -> {
            ThinAir x = Due.withValues(10, 7, 5);
            Due.fraction(x, "far(0)", x.far(0), 3, 3, 2);
            ThinAir y = Due.withValues(1, 7, 10, 5);
            Due.fraction(y, "far(0), the last told first", y.far(0), 4, 1, 2);
            ThinAir z = Due.withValues(10, 7, 7);
            Due.finds(z, "far(0), the second as the last", () -> z.far(0), NOUGHT);
            ThinAir two = Due.withValues(10, 7);
            Due.finds(two, "far(0) of two", () -> two.far(0), NOUGHT);
        });
        Sentence.ofTerms("FALL: of N MARKS, all orders alike likely, and k more: odds that the best of all is among"
                + " these.", () -> {
            ThinAir x = new ThinAir();
            Due.fraction(x, "fall(0, 1)", x.fall(0, 1), 1, 1, 1);
            Due.fraction(x, "fall(1, 1)", x.fall(1, 1), 1, 1, 2);
            Due.fraction(x, "fall(2, 1)", x.fall(2, 1), 1, 1, 3);
            Due.fraction(x, "fall(1, 2)", x.fall(1, 2), 1, 2, 3);
            Due.bad(x, "fall(1, 0)", () -> x.fall(1, 0));
            Due.bad(x, "fall(-1, 1)", () -> x.fall(-1, 1));
        });
    }

    private static void crowds() {
        Sentence.ofTerms("CROWD of a LAND and a YEAR: of all N MARKS that RULES let the best t (VALUES or HOMES; of"
                + " alike ones those told first): odds that of as many MARKS as are of these (LAND of the PLACE) as"
                + " many or more are among the best t, if all choices are alike likely.", () -> {
            ThinAir x = withPlaces();
            x.mark(0, 0, 100, 0, 0);
            x.mark(0, 1, 100, 0, 1);
            x.mark(0, 0, 100, 0, 2);
            x.mark(0, 1, 99, 0, 3);
            x.text(0, 0);
            Due.fraction(x, "crowd(0, 0, 0, 1): of alike ones that told first", x.crowd(0, 0, 0, 1), 1, 1, 2);
            Due.fraction(x, "crowd(0, 1, 0, 1)", x.crowd(0, 1, 0, 1), 0, 1, 1);
            Due.fraction(x, "crowd(0, 1, 0, 2)", x.crowd(0, 1, 0, 2), 1, 5, 6);
            Due.fraction(x, "crowd(0, 0, 0, 3)", x.crowd(0, 0, 0, 3), 2, 1, 2);
            Due.fraction(x, "crowd(0, 1, 0, 4)", x.crowd(0, 1, 0, 4), 2, 1, 1);
            Due.finds(x, "crowd(0, 1, 0, 5)", () -> x.crowd(0, 1, 0, 5), NOUGHT);
            Due.write(x, 1, "S1:-1");
            x.laws(0, 1);
            Due.write(x, 0, "v");
            Due.fraction(x, "crowd(0, 1, 0, 1) by HOMES", x.crowd(0, 1, 0, 1), 1, 1, 2);
            Due.write(x, 0, "s0");
            Due.fraction(x, "crowd(0, 0, 0, 1) of three", x.crowd(0, 0, 0, 1), 0, 1, 1);
            Due.fraction(x, "crowd(0, 0, 0, 2) of three", x.crowd(0, 0, 0, 2), 1, 2, 3);
        });
    }

    private static void next() {
        Sentence.ofTerms("NEXT: of what is not gauged: the PLACE with the most MARKS without WIND; of alike ones"
                + " the first.",
            () -> {
                ThinAir x = withPlaces();
                Due.is("next() of none", x.next(), NONE);
                x.mark(0, 2, 100, NONE, 0);
                Due.tells(x, "next() of the last PLACE", x.next(), 2, 1);
                x.mark(0, 0, 100, 0, 0);
                x.mark(0, 0, 100, -60, 0);
                Due.tells(x, "next(): gauged ones don't count", x.next(), 2, 1);
                x.mark(0, 1, 100, NONE, 0);
                Due.tells(x, "next(): the first of alike ones", x.next(), 1, 1);
                x.mark(0, 2, 100, NONE, 0);
                Due.tells(x, "next(): the most", x.next(), 2, 2);
            });
    }
}
