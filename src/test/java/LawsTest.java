/** Promises 20 to 27: texts of laws and rules, what laws give, home. */
public final class LawsTest {
    private static final int NONE = ThinAir.NONE;
    private static final int NOTHING = 1;

    public static void main(String[] args) {
        promise20Laws();
        promise20Rules();
        promise20Refused();
        promise21();
        promise22();
        promise23();
        promise24();
        promise25();
        promise26();
        promise27();
        Due.end();
    }

    private static void isFault(boolean rules, String signs, int want) {
        ThinAir x = new ThinAir();
        Due.write(x, 2, signs);
        Due.is("fault of '" + signs + "'", x.fault(2, rules), want);
        Due.is("asked() unmoved by fault()", x.asked(), 0);
        Due.is("findings unmoved by fault()", Due.allFindings(x), 0);
    }

    private static void promise20Laws() {
        String[] sound = {"", " ", " ".repeat(40), "W9,4", "  W9,4  ", "W-9,1", "W99,99H-99,99", "H3,4T5F6S0:7S3:-8",
            "T-20", "T0", "T-0", "F00", "S1:2 S1:3", "W1,2  W3,4", "W0,1", "H1,01"};
        for (String signs : sound) {
            isFault(false, signs, NONE);
        }
        isFault(false, "W", 1);
        isFault(false, "W9", 2);
        isFault(false, "W9,", 3);
        isFault(false, "W9,0", 4);
        isFault(false, "W9,00", 5);
        isFault(false, "W9,0 T5", 4);
        isFault(false, "W9,-1", 5);
        isFault(false, "H9,-12 ", 6);
        isFault(false, "H9,0", 4);
        isFault(false, "W9,-", 4);
        isFault(false, "W9,123", 5);
        isFault(false, "W123,1", 3);
        isFault(false, "W--1,1", 2);
        isFault(false, "W 9,1", 1);
        isFault(false, "W9 ,1", 2);
        isFault(false, "W9, 1", 3);
        isFault(false, "W9:1", 2);
        isFault(false, "T", 1);
        isFault(false, "T-", 2);
        isFault(false, "T:", 1);
        isFault(false, "T/", 1);
        isFault(false, "S/:1", 1);
        isFault(false, "T1" + " ".repeat(37) + "T", 40);
        isFault(false, " ".repeat(39) + "S", 40);
        isFault(false, " ".repeat(37) + "S1:", 40);
        isFault(false, " ".repeat(36) + "W1,1", NONE);
        isFault(false, "T - 1", 1);
        isFault(false, "T5 5", 3);
        isFault(false, "T5,5", 2);
        isFault(false, "F5x", 2);
        isFault(false, "F+5", 1);
        isFault(false, "S", 1);
        isFault(false, "S4:1", 1);
        isFault(false, "Sx", 1);
        isFault(false, "S-1:1", 1);
        isFault(false, "S11:1", 2);
        isFault(false, "S1", 2);
        isFault(false, "S1,1", 2);
        isFault(false, "S1:", 3);
        isFault(false, "S1:-", 4);
        isFault(false, "x", 0);
        isFault(false, "  w9", 2);
        isFault(false, "9", 0);
        isFault(false, ",", 0);
        isFault(false, "T1 F2 x", 6);
        isFault(false, "T1\tF2", 2);
        isFault(false, "T" + (char) 200, 1);
        isFault(false, "T1111111111111111111111111111111111111111".substring(0, 40), 3);
        isFault(false, "T1T1T1T1T1T1T1T1T1T1T1T1T1T1T1T1T1T1T1T1", NONE);
        isFault(false, "T1T1T1T1T1T1T1T1T1T1T1T1T1T1T1T1T1T1T1TT", 39);
        isFault(false, "T1T1T1T1T1T1T1T1T1T1T1T1T1T1T1T1T1T1T1 T", 40);
    }

    private static void promise20Rules() {
        String[] sound = {"", " ", "w0", "w99h99s0y99kdtv", " w20 h10  s3 y1 k d t v ", "kkkk", "s0s1s2s3",
            "kdtvkdtvkdtvkdtvkdtvkdtvkdtvkdtvkdtvkdtv", "w00h07", "w1w2"};
        for (String signs : sound) {
            isFault(true, signs, NONE);
        }
        isFault(true, "w", 1);
        isFault(true, "w-1", 1);
        isFault(true, "w 1", 1);
        isFault(true, "w123", 3);
        isFault(true, "h", 1);
        isFault(true, "h123", 3);
        isFault(true, "y123", 3);
        isFault(true, "s:", 1);
        isFault(true, " ".repeat(39) + "s", 40);
        isFault(true, " ".repeat(39) + "w", 40);
        isFault(true, "hx", 1);
        isFault(true, "h1x", 2);
        isFault(true, "y", 1);
        isFault(true, "y1 1", 3);
        isFault(true, "s", 1);
        isFault(true, "sk", 1);
        isFault(true, "s4", 2);
        isFault(true, "s9 k", 2);
        isFault(true, "s12", 2);
        isFault(true, "k1", 1);
        isFault(true, "W1,2", 0);
        isFault(true, " kdx", 3);
        isFault(true, "v,", 1);
        isFault(true, "K", 0);
        isFault(true, "T5", 0);
    }

    private static void promise20Refused() {
        ThinAir x = new ThinAir();
        Due.bad(x, "fault(-1, true)", () -> x.fault(-1, true));
        Due.bad(x, "fault(4, false)", () -> x.fault(4, false));
        Due.finds(x, "fault(0, true)", () -> x.fault(0, true), NOTHING);
        Due.finds(x, "fault(3, false)", () -> x.fault(3, false), NOTHING);
    }

    private static void areNumbers(ThinAir x, int l, int... want) {
        for (int which = 0; which < 10; which++) {
            Due.tells(x, "number(" + l + ", " + which + ")", x.number(l, which), 1, want[which]);
        }
    }

    private static void promise21() {
        ThinAir x = new ThinAir();
        Due.write(x, 0, "W9,4 H3,9 T2 F15 S1:20 S3:-7");
        Due.is("laws(1, 0)", x.laws(1, 0), 6);
        Due.is("count(7)", x.count(7), 1);
        x.put(0, 1, '1');
        areNumbers(x, 1, 9, 4, 3, 9, 2, 15, 0, 20, 0, -7);
        Due.write(x, 0, "T1T2 S0:1S0:2");
        Due.is("laws(1, 0) anew", x.laws(1, 0), 4);
        areNumbers(x, 1, 0, 0, 0, 0, 2, 0, 2, 0, 0, 0);
        Due.write(x, 0, "T9x");
        Due.refuses(x, "laws(1, 0) with a FAULT", () -> x.laws(1, 0), ThinAir.STATE);
        Due.refuses(x, "laws(0, 0) with a FAULT", () -> x.laws(0, 0), ThinAir.STATE);
        areNumbers(x, 1, 0, 0, 0, 0, 2, 0, 2, 0, 0, 0);
        Due.bad(x, "laws(2, 0)", () -> x.laws(2, 0));
        Due.bad(x, "laws(-1, 0)", () -> x.laws(-1, 0));
        Due.bad(x, "laws(0, 4)", () -> x.laws(0, 4));
        Due.bad(x, "laws(0, -1)", () -> x.laws(0, -1));
        Due.finds(x, "laws(0, 1)", () -> x.laws(0, 1), NOTHING);
        x.text(1, 3);
        Due.is("laws(0, 1) of blanks", x.laws(0, 1), 0);
        areNumbers(x, 0, 0, 0, 0, 0, 0, 0, 0, 0, 0, 0);
        Due.is("count(7)", x.count(7), 2);
    }

    private static void promise22() {
        ThinAir x = new ThinAir();
        Due.write(x, 0, "W-12,99W-1,2H99,1H3,4T-5F-6F-60S0:1");
        Due.is("laws(0, 0)", x.laws(0, 0), 8);
        Due.write(x, 0, "S1:2S2:3S3:4S2:55");
        Due.is("laws(1, 0)", x.laws(1, 0), 4);
        areNumbers(x, 0, -1, 2, 3, 4, -5, -60, 1, 0, 0, 0);
        areNumbers(x, 1, 0, 0, 0, 0, 0, 0, 0, 2, 55, 4);
        Due.bad(x, "number(0, 10)", () -> x.number(0, 10));
        Due.bad(x, "number(0, -1)", () -> x.number(0, -1));
        Due.bad(x, "number(2, 0)", () -> x.number(2, 0));
        Due.bad(x, "number(-1, 0)", () -> x.number(-1, 0));
        ThinAir bare = new ThinAir();
        Due.finds(bare, "number(1, 9)", () -> bare.number(1, 9), NOTHING);
    }

    private static ThinAir withLaws(String laws) {
        ThinAir x = new ThinAir();
        Due.write(x, 0, laws);
        x.laws(0, 0);
        return x;
    }

    /** What a lone mark is given; the place and the mark are new. */
    private static int given(String laws, int height, int heat, int floor, int wind, int shoe) {
        ThinAir x = withLaws(laws);
        x.place(height, heat, floor, 0);
        x.mark(0, 0, 5000, wind, shoe);
        Due.is("gives(0, 0) by '" + laws + "'", x.gives(0, 0), 1);
        return x.asked();
    }

    private static void promise23() {
        Due.is("W: 20 tenths", given("W9,4", 0, 20, 0, 20, 0), 135);
        Due.is("W: 0 tenths", given("W9,4", 0, 20, 0, 0, 0), 0);
        Due.is("W: 3 tenths", given("W9,4", 0, 20, 0, 3, 0), 27);
        Due.is("W: 4 tenths", given("W9,4", 0, 20, 0, 4, 0), 35);
        Due.is("W: below 0", given("W9,4", 0, 20, 0, -60, 0), -540);
        Due.is("W: a below 0, behind", given("W-9,4", 0, 20, 0, 4, 0), -37);
        Due.is("W: a below 0, ahead", given("W-9,4", 0, 20, 0, -4, 0), 36);
        Due.is("W: 60 tenths", given("W1,1", 0, 20, 0, 60, 0), 60 - 1830);
        Due.is("W: not gauged", given("W9,4 T1", 0, 22, 0, NONE, 0), 2);
        Due.is("H: 22", given("H3,9", 22, 20, 0, NONE, 0), 66 - 9 - 10);
        Due.is("H: 0", given("H3,9", 0, 20, 0, NONE, 0), 0);
        Due.is("T: above 20", given("T3", 0, 50, 0, NONE, 0), 90);
        Due.is("T: below 20", given("T3", 0, -20, 0, NONE, 0), -120);
        Due.is("T: 20", given("T3", 0, 20, 0, NONE, 0), 0);
        Due.is("F: cinder", given("F7", 0, 20, 0, NONE, 0), 0);
        Due.is("F: rubber", given("F-7", 0, 20, 1, NONE, 0), -7);
        Due.is("S: another", given("S2:5", 0, 20, 0, NONE, 1), 0);
        Due.is("S: this", given("S2:5", 0, 20, 0, NONE, 2), 5);
        Due.is("all together", given("W9,4H3,9T2F15S1:20", 22, 23, 1, 20, 1), 135 + 47 + 6 + 15 + 20);
        Due.is("none told", given("", 40, 50, 1, 60, 3), 0);
        ThinAir x = withLaws("T1");
        Due.bad(x, "gives(0, 0)", () -> x.gives(0, 0));
        x.place(0, 0, 0, 0);
        x.mark(0, 0, 1, 0, 0);
        Due.bad(x, "gives(2, 0)", () -> x.gives(2, 0));
        Due.bad(x, "gives(-1, 0)", () -> x.gives(-1, 0));
        Due.bad(x, "gives(0, 1)", () -> x.gives(0, 1));
        Due.bad(x, "gives(1, -1)", () -> x.gives(1, -1));
        Due.finds(x, "gives(1, 0)", () -> x.gives(1, 0), NOTHING);
        x.strike(0, 0);
        Due.tells(x, "gives(0, 0) of a STRUCK one", x.gives(0, 0), 1, -20);
    }

    private static void promise24() {
        ThinAir x = withLaws("W9,4 T1");
        x.place(0, 30, 0, 0);
        for (int m = 0; m < 6; m++) {
            x.mark(m, 0, 1000, 1, 0);
        }
        x.help(1, 100, NONE);
        x.help(2, 200, 3);
        x.paper(3, 300);
        x.cut(4, 400);
        x.strike(5, 0);
        int[] want = {981, 881, 781, 681, 581, 981};
        for (int m = 0; m < 6; m++) {
            Due.tells(x, "home(0, " + m + ")", x.home(0, m), 1, want[m]);
        }
        x.strike(4, 0);
        Due.tells(x, "home(0, 4) STRUCK", x.home(0, 4), 1, 981);
        x.mark(0, 0, 1, 0, 0);
        x.cut(6, 999);
        Due.tells(x, "home(0, 6) below 0", x.home(0, 6), 1, 1 - 10 - 999);
        Due.bad(x, "home(0, 7)", () -> x.home(0, 7));
        Due.bad(x, "home(2, 0)", () -> x.home(2, 0));
        Due.finds(x, "home(1, 0)", () -> x.home(1, 0), NOTHING);
    }

    /** The span of a mark of 1000 without wind. */
    private static void isSpan(String laws, int width, int least) {
        ThinAir x = withLaws(laws);
        x.place(0, 20, 0, 0);
        x.mark(0, 0, 1000, NONE, 0);
        Due.tells(x, "span(0, 0) by '" + laws + "'", x.span(0, 0), width, least);
    }

    private static void promise25() {
        isSpan("W9,4", 135, 865);
        isSpan("W-9,4", 225, 1000);
        isSpan("W1,5", 18, 996);
        isSpan("W5,1", 120, 990);
        isSpan("T1", 0, 1000);
        ThinAir x = withLaws("W9,4");
        x.place(0, 20, 0, 0);
        x.mark(0, 0, 1000, 20, 0);
        Due.tells(x, "span(0, 0) gauged", x.span(0, 0), 0, 865);
        x.mark(0, 0, 1000, NONE, 0);
        x.cut(1, 10);
        Due.tells(x, "span(0, 1) SHORT", x.span(0, 1), 135, 855);
        Due.bad(x, "span(0, 2)", () -> x.span(0, 2));
        Due.bad(x, "span(-1, 0)", () -> x.span(-1, 0));
        Due.bad(x, "span(2, 0)", () -> x.span(2, 0));
        Due.finds(x, "span(1, 0)", () -> x.span(1, 0), NOTHING);
    }

    private static void promise26() {
        ThinAir x = withLaws("W9,4");
        x.place(0, 20, 0, 0);
        x.mark(0, 0, 1000, NONE, 0);
        x.mark(1, 0, 865, 0, 0);
        x.mark(2, 0, 864, 0, 0);
        x.mark(3, 0, 1000, 0, 0);
        x.mark(4, 0, 1001, 0, 0);
        Due.is("sure(0, 0, 1): as the least", x.sure(0, 0, 1), 0);
        Due.is("sure(0, 0, 2): below the least", x.sure(0, 0, 2), 1);
        Due.is("sure(0, 3, 0): as the greatest", x.sure(0, 3, 0), 0);
        Due.is("sure(0, 4, 0): above the greatest", x.sure(0, 4, 0), 1);
        Due.is("sure(0, 0, 0)", x.sure(0, 0, 0), 0);
        Due.is("sure(0, 1, 2)", x.sure(0, 1, 2), 1);
        Due.is("sure(0, 2, 1)", x.sure(0, 2, 1), 0);
        Due.is("asked() unmoved by sure()", x.asked(), 0);
        Due.bad(x, "sure(0, 5, 0)", () -> x.sure(0, 5, 0));
        Due.bad(x, "sure(0, 0, 5)", () -> x.sure(0, 0, 5));
        Due.bad(x, "sure(0, 0, -1)", () -> x.sure(0, 0, -1));
        Due.bad(x, "sure(2, 0, 0)", () -> x.sure(2, 0, 0));
        Due.finds(x, "sure(1, 0, 1)", () -> x.sure(1, 0, 1), NOTHING);
    }

    private static void isTurn(String laws, int wind, int height) {
        ThinAir x = withLaws(laws);
        Due.is("turns(0, 0) of '" + laws + "'", x.turns(0, 0), wind);
        Due.is("turns(0, 1) of '" + laws + "'", x.turns(0, 1), height);
        Due.is("asked() unmoved by turns()", x.asked(), 0);
    }

    private static void promise27() {
        isTurn("W9,4 H3,9", 40, 36);
        isTurn("", NONE, NONE);
        isTurn("W0,1 H-1,99", 1, 1);
        isTurn("W59,1 H39,1", 60, 40);
        isTurn("W60,1 H40,1", NONE, NONE);
        isTurn("W0,60 H0,40", 60, 40);
        isTurn("W0,61 H0,41", NONE, NONE);
        isTurn("H0,2", NONE, 2);
        ThinAir x = withLaws("W1,1");
        Due.bad(x, "turns(0, 2)", () -> x.turns(0, 2));
        Due.bad(x, "turns(0, -1)", () -> x.turns(0, -1));
        Due.bad(x, "turns(2, 0)", () -> x.turns(2, 0));
        Due.finds(x, "turns(1, 0)", () -> x.turns(1, 0), NOTHING);
    }
}
