/** Part 2 of the document's Terms at its boundaries: laws, faults, home, spans, turns. */
final class TermsOfLaws {
    private static final int NONE = ThinAir.NONE;

    private TermsOfLaws() { }

    static void run() {
        texts();
        winds();
        heights();
        others();
        faults();
        home();
        spans();
        turns();
    }

    private static ThinAir withLaws(String signs) {
        ThinAir x = new ThinAir();
        Due.write(x, 0, signs);
        x.laws(0, 0);
        return x;
    }

    /** What LAWS give a lone mark of 1000. */
    private static void isGiven(String signs, int height, int heat, int floor, int wind, int shoe, int want) {
        ThinAir x = withLaws(signs);
        x.place(height, heat, floor, 0);
        x.mark(0, 0, 1000, wind, shoe);
        Due.tells(x, "gives(0, 0) by '" + signs + "' at " + height + ", " + heat + ", " + floor + " of " + wind + ", "
            + shoe, x.gives(0, 0), 1, want);
    }

    private static void isFault(String signs, boolean rules, int want) {
        ThinAir x = new ThinAir();
        Due.write(x, 0, signs);
        Due.is("fault of '" + signs + "'", x.fault(0, rules), want);
    }

    private static void texts() {
        Sentence.ofTerms("LAWS 0, 1 (missing at first) are a TEXT: blanks (32) ahead, between, behind as many as"
                + " wanted;", () -> {
            for (int l = -1; l <= 2; l++) {
                ThinAir x = new ThinAir();
                boolean is = l >= 0 && l <= 1;
                Due.is("number(" + l + ", 0) at first", x.number(l, 0), is ? ThinAir.FINDING : ThinAir.BAD);
                x.text(0, 0);
                Due.is("laws(" + l + ", 0)", x.laws(l, 0), is ? 0 : ThinAir.BAD);
                Due.is("number(" + l + ", 0)", x.number(l, 0), is ? 1 : ThinAir.BAD);
            }
            isFault("", false, NONE);
            isFault(" ", false, NONE);
            isFault(" ".repeat(40), false, NONE);
            isFault("T1F2", false, NONE);
            isFault(" T1 F2 ", false, NONE);
            isFault(" ".repeat(12) + "T1" + " ".repeat(12) + "F2" + " ".repeat(12), false, NONE);
            isFault(" ".repeat(38) + "T1", false, NONE);
            isFault("T1\nF2", false, 2);
            isFault("T1" + (char) 0 + "F2", false, 2);
            isFault("T1" + (char) 160 + "F2", false, 2);
        });
        Sentence.ofTerms("items of a letter and numbers (each an optional - (45), one or two figures):", () -> {
            for (String number : new String[] {"0", "9", "00", "09", "99", "-0", "-9", "-00", "-99"}) {
                ThinAir x = withLaws("T?F?S0:?W?,9H?,9".replace("?", number));
                for (int which : new int[] {4, 5, 6, 0, 2}) {
                    Due.tells(x, "number(0, " + which + ") of " + number, x.number(0, which), 1,
                        Integer.parseInt(number));
                }
            }
            isFault("T", false, 1);
            isFault("T-", false, 2);
            isFault("T--1", false, 2);
            isFault("T+1", false, 1);
            isFault("T1-", false, 2);
            isFault("T100", false, 3);
            isFault("T-100", false, 4);
            isFault("T 1", false, 1);
        });
    }

    private static void winds() {
        Sentence.ofTerms("W (87) a , (44) b: the k-th tenth of WIND above 0 gives a less k by b, cut; each one"
                + " below 0 takes a;", () -> {
            isGiven("W7,3", 0, 20, 0, 0, 0, 0);
            isGiven("W7,3", 0, 20, 0, 1, 0, 7);
            isGiven("W7,3", 0, 20, 0, 2, 0, 14);
            isGiven("W7,3", 0, 20, 0, 3, 0, 20);
            isGiven("W7,3", 0, 20, 0, 5, 0, 32);
            isGiven("W7,3", 0, 20, 0, 6, 0, 37);
            isGiven("W7,3", 0, 20, 0, -1, 0, -7);
            isGiven("W7,3", 0, 20, 0, -60, 0, -420);
            isGiven("W-7,3", 0, 20, 0, -1, 0, 7);
            isGiven("W-7,3", 0, 20, 0, 3, 0, -22);
            isGiven("W0,60", 0, 20, 0, 59, 0, 0);
            isGiven("W0,60", 0, 20, 0, 60, 0, -1);
            isGiven("W0,61", 0, 20, 0, 60, 0, 0);
            isGiven("W0,1", 0, 20, 0, 60, 0, -1830);
        });
    }

    private static void heights() {
        Sentence.ofTerms("H (72) a , b: the k-th of HEIGHT gives a less k by b, cut (b above 0, else the place"
                + " behind it);", () -> {
            isGiven("H7,3", 0, 20, 0, 0, 0, 0);
            isGiven("H7,3", 1, 20, 0, 0, 0, 7);
            isGiven("H7,3", 2, 20, 0, 0, 0, 14);
            isGiven("H7,3", 3, 20, 0, 0, 0, 20);
            isGiven("H7,3", 6, 20, 0, 0, 0, 37);
            isGiven("H-7,3", 3, 20, 0, 0, 0, -22);
            isGiven("H0,40", 39, 20, 0, 0, 0, 0);
            isGiven("H0,40", 40, 20, 0, 0, 0, -1);
            isGiven("H0,1", 40, 20, 0, 0, 0, -820);
            for (String letter : new String[] {"W", "H"}) {
                isFault(letter + "1,1", false, NONE);
                isFault(letter + "1,01", false, NONE);
                isFault(letter + "1,0", false, 4);
                isFault(letter + "1,00", false, 5);
                isFault(letter + "1,-0", false, 5);
                isFault(letter + "1,-00", false, 6);
                isFault(letter + "1,-1", false, 5);
                isFault(letter + "1,-99 T1", false, 6);
                isFault(letter + "1,0T1", false, 4);
                isFault("T1 " + letter + "-10,0", false, 9);
            }
        });
    }

    private static void others() {
        Sentence.ofTerms("T (84) a: each of HEAT above 20 gives a (below 20 takes it);", () -> {
            int[][] want = {{20, 0}, {21, 7}, {19, -7}, {50, 210}, {0, -140}, {-1, -147}, {-20, -280}};
            for (int[] a : want) {
                isGiven("T7", 0, a[0], 0, 0, 0, a[1]);
                isGiven("T-7", 0, a[0], 0, 0, 0, -a[1]);
            }
        });
        Sentence.ofTerms("F (70) a: rubber gives a;", () -> {
            isGiven("F99", 0, 20, 0, 0, 0, 0);
            isGiven("F99", 0, 20, 1, 0, 0, 99);
            isGiven("F-99", 0, 20, 1, 0, 0, -99);
        });
        Sentence.ofTerms("S (83) k : (58) a: SHOE k (0 .. 3, one figure) gives a.", () -> {
            for (int k = 0; k <= 9; k++) {
                isFault("S" + k + ":5", false, k <= 3 ? NONE : 1);
                for (int shoe = 0; shoe <= 3 && k <= 3; shoe++) {
                    isGiven("S" + k + ":5", 0, 20, 0, 0, shoe, shoe == k ? 5 : 0);
                }
            }
            isFault("S00:5", false, 2);
            isFault("S-1:5", false, 1);
            isFault("S:5", false, 1);
            isFault("S1,5", false, 2);
        });
        Sentence.ofTerms("Of alike items the last counts (S: of each SHOE).", () -> {
            isGiven("T1T2", 0, 21, 0, 0, 0, 2);
            isGiven("F1F2F3", 0, 20, 1, 0, 0, 3);
            isGiven("W1,9T5W2,8", 0, 20, 0, 8, 0, 15);
            isGiven("H2,8H1,9", 9, 20, 0, 0, 0, 8);
            isGiven("S0:1S1:2S0:3", 0, 20, 0, 0, 0, 3);
            isGiven("S0:1S1:2S0:3", 0, 20, 0, 0, 1, 2);
        });
        Sentence.ofTerms("What is not told gives 0.", () -> {
            isGiven("", 40, 50, 1, 60, 3, 0);
            isGiven("", 40, -20, 1, -60, 0, 0);
            isGiven("W1,99", 40, 50, 1, 0, 3, 0);
            isGiven("H1,99", 0, 50, 1, 60, 3, 0);
            isGiven("T1", 40, 20, 1, 60, 3, 0);
            isGiven("F1", 40, 50, 0, 60, 3, 0);
            isGiven("S0:1S1:1S2:1", 40, 50, 1, 60, 3, 0);
        });
    }

    private static void faults() {
        Sentence.ofTerms("A FAULT is the first place at which it can't go on so (the TEXT's size, if its end comes"
                + " too early).", () -> {
            isFault("x", false, 0);
            isFault("x T", false, 0);
            isFault("T1x", false, 2);
            isFault("T1 x", false, 3);
            isFault("T1 xW", false, 3);
            isFault(" ".repeat(39) + "x", false, 39);
            isFault(" ".repeat(39) + "T", false, 40);
            isFault(" ".repeat(39) + "W", false, 40);
            isFault(" ".repeat(39) + "S", false, 40);
            isFault(" ".repeat(38) + "T-", false, 40);
            isFault(" ".repeat(37) + "W1,", false, 40);
            isFault(" ".repeat(36) + "W1,0", false, 40);
            isFault(" ".repeat(38) + "W1", false, 40);
            isFault(" ".repeat(38) + "S1", false, 40);
            isFault(" ".repeat(37) + "S1:", false, 40);
            isFault("T1".repeat(20), false, NONE);
            isFault("T1".repeat(19) + "T", false, 39);
            isFault("T1".repeat(19) + "Tx", false, 39);
            ThinAir x = new ThinAir();
            Due.write(x, 0, "T12");
            x.text(0, 1);
            x.put(0, 0, 'T');
            Due.is("fault of 'T' where 'T12' was", x.fault(0, false), 1);
        });
        Sentence.ofTerms("A FAULT likewise (s above 3: the place behind).", () -> {
            for (int k = 0; k <= 9; k++) {
                isFault("s" + k, true, k <= 3 ? NONE : 2);
                isFault("k s" + k + " d", true, k <= 3 ? NONE : 4);
            }
            isFault("s10", true, 2);
            isFault("s", true, 1);
            isFault("w", true, 1);
            isFault("w100", true, 3);
            isFault("h-1", true, 1);
            isFault("y1y", true, 3);
            isFault(" ".repeat(39) + "y", true, 40);
            isFault(" ".repeat(38) + "s9", true, 40);
            isFault(" ".repeat(38) + "s3", true, NONE);
            isFault("kdtv".repeat(10), true, NONE);
            isFault("kdtv".repeat(9) + "kdtx", true, 39);
        });
    }

    private static void home() {
        Sentence.ofTerms("GIVES of a MARK by LAWS: all together (a WIND that is not gauged: none).", () -> {
            isGiven("W1,99H2,99T4F8S3:16", 1, 21, 1, 1, 3, 31);
            isGiven("W1,99H2,99T4F8S3:16", 1, 21, 1, NONE, 3, 30);
            isGiven("W-99,1", 0, 20, 0, NONE, 0, 0);
        });
        Sentence.ofTerms("HOME is its VALUE less that; of HELPED ones (GAUGED, LATER) less by how much, of SHORT"
                + " ones less that, too.", () -> {
            ThinAir x = withLaws("T1");
            x.place(0, 21, 0, 0);
            for (int m = 0; m < 6; m++) {
                x.mark(0, 0, 1000, 0, 0);
            }
            x.help(1, 999, NONE);
            x.help(2, 998, 0);
            x.paper(3, 1);
            x.cut(4, 997);
            x.strike(5, 9);
            int[] want = {999, 0, 1, 998, 2, 999};
            for (int m = 0; m < 6; m++) {
                Due.tells(x, "home(0, " + m + ")", x.home(0, m), 1, want[m]);
            }
        });
    }

    private static void spans() {
        Sentence.ofTerms("SPAN of HOME: of a MARK without WIND: by winds 0 to 20 (its ends: the least, the greatest"
                + " of all 21); else HOME alone.", () -> {
            // W0,20 takes 1 at the twentieth tenth alone, W0,21 nothing up to it.
            String[] signs = {"W1,99", "W-1,99", "W0,20", "W0,21", "W0,19", "W1,2", "T1"};
            int[] width = {20, 20, 1, 0, 2, 81, 0};
            int[] least = {980, 1000, 1000, 1000, 1000, 999, 1000};
            for (int i = 0; i < signs.length; i++) {
                ThinAir x = withLaws(signs[i]);
                x.place(0, 20, 0, 0);
                x.mark(0, 0, 1000, NONE, 0);
                Due.tells(x, "span(0, 0) by '" + signs[i] + "'", x.span(0, 0), width[i], least[i]);
                x.mark(0, 0, 1000, 0, 0);
                Due.tells(x, "span(0, 1) by '" + signs[i] + "', gauged", x.span(0, 1), 0, 1000);
            }
        });
        Sentence.ofTerms("SURE ahead is one of which the least is above the other's greatest.", () -> {
            ThinAir x = withLaws("W1,99");
            x.place(0, 20, 0, 0);
            x.mark(0, 0, 1000, NONE, 0);
            for (int value : new int[] {979, 980, 981, 999, 1000, 1001}) {
                int m = x.mark(1, 0, value, 0, 0);
                Due.is("sure(0, 0, " + m + "): 980 ahead of " + value, x.sure(0, 0, m), value < 980 ? 1 : 0);
                Due.is("sure(0, " + m + ", 0): " + value + " ahead of 1000", x.sure(0, m, 0), value > 1000 ? 1 : 0);
            }
        });
    }

    private static void turns() {
        Sentence.ofTerms("TURNS of W, H: the first k 1 .. 60 (of H .. 40) that gives less than 0; none: NONE.",
            () -> {
            for (int b : new int[] {1, 2, 39, 40, 41, 59, 60, 61, 99}) {
                ThinAir x = withLaws("W0," + b + "H0," + b);
                Due.is("turns(0, 0) of W0," + b, x.turns(0, 0), b <= 60 ? b : NONE);
                Due.is("turns(0, 1) of H0," + b, x.turns(0, 1), b <= 40 ? b : NONE);
            }
            for (int a : new int[] {-99, -1, 0, 1, 38, 39, 40, 58, 59, 60}) {
                ThinAir x = withLaws("W" + a + ",1H" + a + ",1");
                int turn = Math.max(a + 1, 1);
                Due.is("turns(0, 0) of W" + a + ",1", x.turns(0, 0), turn <= 60 ? turn : NONE);
                Due.is("turns(0, 1) of H" + a + ",1", x.turns(0, 1), turn <= 40 ? turn : NONE);
            }
        });
    }
}
