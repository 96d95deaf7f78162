import java.util.function.IntUnaryOperator;

/** Promises 20 to 27 at their boundaries: faults, laws, what they give, home. */
public final class LawBoundsTest {
    private static final int NONE = ThinAir.NONE;
    private static final int NOTHING = 1;

    public static void main(String[] args) {
        faultOfLaws();
        faultOfRules();
        faultRefused();
        laws();
        number();
        gives();
        home();
        span();
        sure();
        turns();
        Sentence.end(20, 27);
    }

    private static int faultOf(String signs, boolean rules) {
        ThinAir x = new ThinAir();
        Due.write(x, 3, signs);
        return x.fault(3, rules);
    }

    /** Every one of the 256 bytes behind what stands ahead, at the end of a TEXT. */
    private static void everyByteBehind(String ahead, boolean rules, IntUnaryOperator want) {
        for (int sign = 0; sign < 256; sign++) {
            Due.is("fault of '" + ahead + "' and byte " + sign, faultOf(ahead + (char) sign, rules),
                want.applyAsInt(sign));
        }
    }

    private static boolean isFigure(int sign) {
        return sign >= '0' && sign <= '9';
    }

    private static boolean begins(String letters, int sign) {
        return letters.indexOf(sign) >= 0;
    }

    private static void faultOfLaws() {
        Sentence.holds(20, "A FAULT of a TEXT of LAWS (rules: of RULES); NONE: there is none.", () -> {
            everyByteBehind("", false, s -> s == ' ' ? NONE : begins("WHTFS", s) ? 1 : 0);
            everyByteBehind("T", false, s -> isFigure(s) ? NONE : s == '-' ? 2 : 1);
            everyByteBehind("T-", false, s -> isFigure(s) ? NONE : 2);
            everyByteBehind("F1", false, s -> isFigure(s) || s == ' ' ? NONE : begins("WHTFS", s) ? 3 : 2);
            everyByteBehind("F12", false, s -> s == ' ' ? NONE : begins("WHTFS", s) ? 4 : 3);
            everyByteBehind("W1", false, s -> isFigure(s) || s == ',' ? 3 : 2);
            everyByteBehind("H12", false, s -> s == ',' ? 4 : 3);
            everyByteBehind("W1,", false, s -> s >= '1' && s <= '9' ? NONE : s == '0' || s == '-' ? 4 : 3);
            everyByteBehind("H1,0", false, s -> s >= '1' && s <= '9' ? NONE : s == '0' ? 5 : 4);
            everyByteBehind("H1,1", false, s -> isFigure(s) || s == ' ' ? NONE : begins("WHTFS", s) ? 5 : 4);
            everyByteBehind("W1,-", false, s -> isFigure(s) ? 5 : 4);
            everyByteBehind("S", false, s -> s >= '0' && s <= '3' ? 2 : 1);
            everyByteBehind("S3", false, s -> s == ':' ? 3 : 2);
            everyByteBehind("S0:", false, s -> isFigure(s) ? NONE : s == '-' ? 4 : 3);
            everyByteBehind("S1:99", false, s -> s == ' ' ? NONE : begins("WHTFS", s) ? 6 : 5);
        });
        Sentence.holds(20, "A FAULT of a TEXT", () -> {
            // Where each beginning of a TEXT ends too early; 0: it does not.
            String signs = "W9,12  T-3H1,2 F15S0:-7T1";
            int[] due = {0, 1, 2, 3, 0, 0, 0, 0, 8, 9, 0, 11, 12, 13, 0, 0, 16, 0, 0, 19, 20, 21, 22, 0, 24, 0};
            Due.is("as many as beginnings", due.length, signs.length() + 1);
            for (int size = 0; size <= signs.length(); size++) {
                Due.is("fault of '" + signs.substring(0, size) + "'", faultOf(signs.substring(0, size), false),
                    due[size] == 0 ? NONE : due[size]);
            }
        });
    }

    private static void faultOfRules() {
        Sentence.holds(20, "of RULES", () -> {
            everyByteBehind("", true, s -> s == ' ' || begins("kdtv", s) ? NONE : begins("whsy", s) ? 1 : 0);
            everyByteBehind("w", true, s -> isFigure(s) ? NONE : 1);
            everyByteBehind("h", true, s -> isFigure(s) ? NONE : 1);
            everyByteBehind("y", true, s -> isFigure(s) ? NONE : 1);
            everyByteBehind("s", true, s -> s >= '0' && s <= '3' ? NONE : isFigure(s) ? 2 : 1);
            everyByteBehind("w1", true,
                s -> isFigure(s) || s == ' ' || begins("kdtv", s) ? NONE : begins("whsy", s) ? 3 : 2);
            everyByteBehind("w12", true, s -> s == ' ' || begins("kdtv", s) ? NONE : begins("whsy", s) ? 4 : 3);
            everyByteBehind("h00", true, s -> s == ' ' || begins("kdtv", s) ? NONE : begins("whsy", s) ? 4 : 3);
            everyByteBehind("y99", true, s -> s == ' ' || begins("kdtv", s) ? NONE : begins("whsy", s) ? 4 : 3);
            everyByteBehind("s3", true, s -> s == ' ' || begins("kdtv", s) ? NONE : begins("whsy", s) ? 3 : 2);
            everyByteBehind("v", true, s -> s == ' ' || begins("kdtv", s) ? NONE : begins("whsy", s) ? 2 : 1);
        });
    }

    private static void faultRefused() {
        Sentence.holds(20, "BAD; ", () -> {
            Due.within("fault(t, false)", LawBoundsTest::withTexts, (x, t) -> x.fault(t, false), 0, 3);
            Due.within("fault(t, true)", LawBoundsTest::withTexts, (x, t) -> x.fault(t, true), 0, 3);
            ThinAir x = new ThinAir();
            Due.bad(x, "fault(4, true), ahead of NOTHING", () -> x.fault(4, true));
        });
        Sentence.holds(20, "NOTHING.", () -> {
            ThinAir x = new ThinAir();
            Due.finds(x, "fault(0, false)", () -> x.fault(0, false), NOTHING);
            Due.finds(x, "fault(3, true)", () -> x.fault(3, true), NOTHING);
            x.text(3, 0);
            Due.is("fault(3, true) of no bytes", x.fault(3, true), NONE);
        });
    }

    private static ThinAir withTexts() {
        ThinAir x = new ThinAir();
        for (int t = 0; t < 4; t++) {
            x.text(t, t);
        }
        return x;
    }

    /** LAWS 0, 1 by a TEXT, a place of HEIGHT 0, HEAT 20, and three marks of 1000. */
    private static ThinAir withLaws(String signs) {
        ThinAir x = new ThinAir();
        Due.write(x, 0, signs);
        x.laws(0, 0);
        x.laws(1, 0);
        x.place(0, 20, 0, 0);
        for (int m = 0; m < 3; m++) {
            x.mark(m, 0, 1000, m, 0);
        }
        return x;
    }

    private static ThinAir withoutLaws() {
        ThinAir x = new ThinAir();
        x.place(0, 20, 0, 0);
        x.mark(0, 0, 1000, 0, 0);
        return x;
    }

    private static void isCount(String signs, int items) {
        ThinAir x = new ThinAir();
        Due.write(x, 0, signs);
        Due.is("laws(0, 0) of '" + signs + "'", x.laws(0, 0), items);
        Due.is("laws(1, 0) of '" + signs + "'", x.laws(1, 0), items);
    }

    private static void laws() {
        Sentence.holds(21, "LAWS by a TEXT (anew): how many items.", () -> {
            isCount("", 0);
            isCount(" ".repeat(40), 0);
            isCount("T1", 1);
            isCount("T1".repeat(20), 20);
            isCount("T1 T1", 2);
            isCount("W1,1H1,1T1F1S0:1S1:1S2:1S3:1", 8);
            ThinAir x = withLaws("T5F6");
            Due.write(x, 0, "F7");
            Due.is("laws(0, 0) anew", x.laws(0, 0), 1);
            Due.tells(x, "number(0, 4): not told anew", x.number(0, 4), 1, 0);
            Due.tells(x, "number(0, 5)", x.number(0, 5), 1, 7);
            Due.tells(x, "number(1, 4): the other ones stay", x.number(1, 4), 1, 5);
        });
        Sentence.holds(21, "BAD; ", () -> {
            Due.within("laws(l, 0)", LawBoundsTest::withTexts, (x, l) -> x.laws(l, 0), 0, 1);
            Due.within("laws(0, t)", LawBoundsTest::withTexts, (x, t) -> x.laws(0, t), 0, 3);
            ThinAir x = new ThinAir();
            Due.bad(x, "laws(2, 0), ahead of NOTHING", () -> x.laws(2, 0));
            Due.write(x, 0, "x");
            Due.bad(x, "laws(2, 0), ahead of STATE", () -> x.laws(2, 0));
        });
        Sentence.holds(21, "NOTHING; ", () -> {
            ThinAir x = new ThinAir();
            Due.finds(x, "laws(0, 3)", () -> x.laws(0, 3), NOTHING);
            x.text(3, 0);
            Due.is("laws(0, 3) of no bytes", x.laws(0, 3), 0);
        });
        Sentence.holds(21, "STATE: a FAULT. (STATE behind NOTHING.)", () -> {
            ThinAir x = withLaws("T5");
            for (String signs : new String[] {"x", "T", "T6x", "T6 W1,0", "S4:1", "v"}) {
                Due.write(x, 1, signs);
                Due.state(x, "laws(0, 1) of '" + signs + "'", () -> x.laws(0, 1));
                Due.finds(x, "laws(0, 2), another one being missing", () -> x.laws(0, 2), NOTHING);
            }
            ThinAir bare = new ThinAir();
            Due.write(bare, 0, "T");
            Due.state(bare, "laws(1, 0) of LAWS that are missing", () -> bare.laws(1, 0));
        });
    }

    private static void number() {
        Sentence.holds(22, "A number of LAWS: 0, 1 W's a, b, 2, 3 H's, 4 T, 5 F, 6 to 9 S of SHOES,", () -> {
            String[] signs = {"W-99,99H99,1T-99F99", "S0:-99S1:99S2:-1S3:0", "W0,01H-0,10T00F-00", ""};
            int[][] want = {{-99, 99, 99, 1, -99, 99, 0, 0, 0, 0}, {0, 0, 0, 0, 0, 0, -99, 99, -1, 0},
                {0, 1, 0, 10, 0, 0, 0, 0, 0, 0}, {0, 0, 0, 0, 0, 0, 0, 0, 0, 0}};
            for (int i = 0; i < signs.length; i++) {
                ThinAir x = withLaws(signs[i]);
                for (int which = 0; which <= 9; which++) {
                    Due.tells(x, "number(0, " + which + ") of '" + signs[i] + "'", x.number(0, which), 1,
                        want[i][which]);
                }
            }
        });
        Sentence.holds(22, "BAD; ", () -> {
            Due.within("number(l, 0)", () -> withLaws(""), (x, v) -> x.number(v, 0), 0, 1);
            Due.within("number(0, which)", () -> withLaws(""), (x, v) -> x.number(0, v), 0, 9);
            ThinAir x = new ThinAir();
            Due.bad(x, "number(0, 10), ahead of NOTHING", () -> x.number(0, 10));
        });
        Sentence.holds(22, "NOTHING.", () -> {
            ThinAir x = new ThinAir();
            Due.finds(x, "number(0, 0)", () -> x.number(0, 0), NOTHING);
            Due.finds(x, "number(1, 9)", () -> x.number(1, 9), NOTHING);
            x.text(0, 0);
            x.laws(1, 0);
            Due.finds(x, "number(0, 0), others being there", () -> x.number(0, 0), NOTHING);
            Due.tells(x, "number(1, 0)", x.number(1, 0), 1, 0);
        });
    }

    /** What LAWS give a mark of its own. */
    private static void isGiven(String signs, int height, int heat, int floor, int wind, int shoe, int want) {
        ThinAir x = withLaws(signs);
        x.place(height, heat, floor, 0);
        x.mark(0, 1, 1000, wind, shoe);
        String call = " by '" + signs + "' at " + height + ", " + heat + ", " + floor + " of " + wind + ", " + shoe;
        Due.tells(x, "gives(0, 3)" + call, x.gives(0, 3), 1, want);
        Due.tells(x, "home(0, 3)" + call, x.home(0, 3), 1, 1000 - want);
    }

    private static void gives() {
        Sentence.holds(23, "GIVES of a MARK by LAWS, told by asked(): 1.", () -> {
            isGiven("W99,1", 0, 20, 0, 60, 0, 99 * 60 - 1830);
            isGiven("W-99,1", 0, 20, 0, 60, 0, -99 * 60 - 1830);
            isGiven("W99,1", 0, 20, 0, -60, 0, -99 * 60);
            isGiven("W-99,99", 0, 20, 0, -60, 0, 99 * 60);
            isGiven("H99,1", 40, 20, 0, 0, 0, 99 * 40 - 820);
            isGiven("H-99,1", 40, 20, 0, 0, 0, -99 * 40 - 820);
            isGiven("T99", 0, 50, 0, 0, 0, 99 * 30);
            isGiven("T99", 0, -20, 0, 0, 0, -99 * 40);
            isGiven("F99S3:99", 0, 20, 1, 0, 3, 198);
            isGiven("W99,99H99,99T99F99S0:99", 40, 50, 1, 60, 0, 99 * 132);
        });
        Sentence.holds(23, "BAD; ", () -> {
            Due.within("gives(l, 0)", () -> withLaws("T1"), (x, v) -> x.gives(v, 0), 0, 1);
            Due.within("gives(0, m)", () -> withLaws("T1"), (x, v) -> x.gives(0, v), 0, 2);
            ThinAir x = withoutLaws();
            Due.bad(x, "gives(0, 1), ahead of NOTHING", () -> x.gives(0, 1));
        });
        Sentence.holds(23, "NOTHING.", () -> {
            ThinAir x = withoutLaws();
            Due.finds(x, "gives(0, 0)", () -> x.gives(0, 0), NOTHING);
            x.text(0, 0);
            x.laws(0, 0);
            Due.finds(x, "gives(1, 0)", () -> x.gives(1, 0), NOTHING);
            Due.tells(x, "gives(0, 0) by no items", x.gives(0, 0), 1, 0);
        });
    }

    private static void home() {
        Sentence.holds(24, "HOME of a MARK, likewise.", () -> {
            for (int much : new int[] {1, 999}) {
                ThinAir x = withLaws("T1");
                x.help(0, much, NONE);
                x.help(1, much, 5);
                x.paper(2, much);
                x.mark(0, 0, 1000, 0, 0);
                x.cut(3, much);
                for (int m = 0; m < 4; m++) {
                    Due.tells(x, "home(0, " + m + ") by " + much, x.home(0, m), 1, 1000 - much);
                    x.strike(m, 0);
                    Due.tells(x, "home(0, " + m + ") STRUCK", x.home(0, m), 1, 1000);
                }
            }
            ThinAir least = withLaws("T1");
            least.mark(0, 0, 1, 0, 0);
            least.cut(3, 1);
            Due.tells(least, "home(0, 3) of 0", least.home(0, 3), 1, 0);
            least.mark(0, 0, 1, 0, 0);
            least.cut(4, 2);
            Due.tells(least, "home(0, 4) below 0", least.home(0, 4), 1, -1);
        });
        Sentence.holds(24, "likewise", () -> {
            Due.within("home(l, 0)", () -> withLaws("T1"), (x, v) -> x.home(v, 0), 0, 1);
            Due.within("home(0, m)", () -> withLaws("T1"), (x, v) -> x.home(0, v), 0, 2);
            ThinAir x = withoutLaws();
            Due.bad(x, "home(0, 1), ahead of NOTHING", () -> x.home(0, 1));
            Due.finds(x, "home(0, 0)", () -> x.home(0, 0), NOTHING);
            x.text(0, 0);
            x.laws(1, 0);
            Due.finds(x, "home(0, 0), others being there", () -> x.home(0, 0), NOTHING);
            Due.tells(x, "home(1, 0)", x.home(1, 0), 1, 1000);
        });
    }

    private static void isSpan(String signs, int wind, int width, int least) {
        ThinAir x = withLaws(signs);
        x.mark(0, 0, 1000, wind, 0);
        Due.tells(x, "span(0, 3) by '" + signs + "' of wind " + wind, x.span(0, 3), width, least);
    }

    private static void span() {
        Sentence.holds(25, "SPAN of HOME: its width; the least by asked().", () -> {
            // By k tenths W5,2 gives 5 k less the halves: the greatest is at 10 and 11 tenths.
            isSpan("W5,2", NONE, 25, 975);
            // The twentieth tenth gives nothing more; by ten less, the first ten are taken off again.
            isSpan("W20,1", NONE, 190, 810);
            isSpan("W10,1", NONE, 55, 955);
            // Both ends are elsewhere than at 0: 4 at three tenths, -60 at twenty.
            isSpan("W2,2", NONE, 64, 996);
            isSpan("W0,20", NONE, 1, 1000);
            isSpan("W0,21", NONE, 0, 1000);
            isSpan("W1,99", NONE, 20, 980);
            isSpan("W-1,99", NONE, 20, 1000);
            isSpan("T9", NONE, 0, 1000);
            isSpan("W1,99", 0, 0, 1000);
            isSpan("W1,99", 20, 0, 980);
            isSpan("W1,99", 60, 0, 940);
            isSpan("W1,99", -60, 0, 1060);
        });
        Sentence.holds(25, "BAD; ", () -> {
            Due.within("span(l, 0)", () -> withLaws("T1"), (x, v) -> x.span(v, 0), 0, 1);
            Due.within("span(0, m)", () -> withLaws("T1"), (x, v) -> x.span(0, v), 0, 2);
            ThinAir x = withoutLaws();
            Due.bad(x, "span(0, 1), ahead of NOTHING", () -> x.span(0, 1));
        });
        Sentence.holds(25, "NOTHING.", () -> {
            ThinAir x = withoutLaws();
            Due.finds(x, "span(0, 0)", () -> x.span(0, 0), NOTHING);
            x.text(0, 0);
            x.laws(0, 0);
            Due.finds(x, "span(1, 0)", () -> x.span(1, 0), NOTHING);
            Due.tells(x, "span(0, 0)", x.span(0, 0), 0, 1000);
        });
    }

    private static void sure() {
        Sentence.holds(26, "Whether a MARK is SURE ahead of another one: 1, 0.", () -> {
            ThinAir x = withLaws("W1,99");
            x.mark(0, 0, 1020, NONE, 0);
            x.mark(0, 0, 1021, NONE, 0);
            x.mark(0, 0, 1041, NONE, 0);
            x.mark(0, 0, 1042, NONE, 0);
            Due.is("sure(0, 3, 0): least 1000 of 1000", x.sure(0, 3, 0), 0);
            Due.is("sure(0, 4, 0): least 1001 of 1000", x.sure(0, 4, 0), 1);
            Due.is("sure(0, 5, 4): least 1021 of greatest 1021", x.sure(0, 5, 4), 0);
            Due.is("sure(0, 6, 4): least 1022 of greatest 1021", x.sure(0, 6, 4), 1);
            Due.is("sure(0, 4, 6)", x.sure(0, 4, 6), 0);
            Due.is("sure(0, 0, 1): 1000 of 999", x.sure(0, 0, 1), 1);
            Due.is("sure(0, 1, 0): 999 of 1000", x.sure(0, 1, 0), 0);
            Due.is("sure(0, 0, 0): itself", x.sure(0, 0, 0), 0);
            Due.is("sure(0, 6, 6): itself, not gauged", x.sure(0, 6, 6), 0);
        });
        Sentence.holds(26, "BAD; ", () -> {
            Due.within("sure(l, 0, 1)", () -> withLaws("T1"), (x, v) -> x.sure(v, 0, 1), 0, 1);
            Due.within("sure(0, m, 1)", () -> withLaws("T1"), (x, v) -> x.sure(0, v, 1), 0, 2);
            Due.within("sure(0, 0, other)", () -> withLaws("T1"), (x, v) -> x.sure(0, 0, v), 0, 2);
            ThinAir x = withoutLaws();
            Due.bad(x, "sure(0, 1, 0), ahead of NOTHING", () -> x.sure(0, 1, 0));
            Due.bad(x, "sure(0, 0, 1), ahead of NOTHING", () -> x.sure(0, 0, 1));
        });
        Sentence.holds(26, "NOTHING.", () -> {
            ThinAir x = withoutLaws();
            Due.finds(x, "sure(0, 0, 0)", () -> x.sure(0, 0, 0), NOTHING);
            x.text(0, 0);
            x.laws(0, 0);
            Due.finds(x, "sure(1, 0, 0)", () -> x.sure(1, 0, 0), NOTHING);
            Due.is("sure(0, 0, 0)", x.sure(0, 0, 0), 0);
        });
    }

    private static void areTurns(String signs, int wind, int height) {
        ThinAir x = withLaws(signs);
        Due.is("turns(0, 0) of '" + signs + "'", x.turns(0, 0), wind);
        Due.is("turns(1, 1) of '" + signs + "'", x.turns(1, 1), height);
    }

    private static void turns() {
        Sentence.holds(27, "TURNS of W (0), H (1); NONE.", () -> {
            areTurns("W0,1 H0,1", 1, 1);
            areTurns("W-99,99 H-1,99", 1, 1);
            areTurns("W0,59 H0,39", 59, 39);
            areTurns("W0,60 H0,40", 60, 40);
            areTurns("W0,61 H0,41", NONE, NONE);
            areTurns("W58,1 H38,1", 59, 39);
            areTurns("W59,1 H39,1", 60, 40);
            areTurns("W60,1 H40,1", NONE, NONE);
            areTurns("W1,1", 2, NONE);
            areTurns("H1,1", NONE, 2);
            areTurns("", NONE, NONE);
        });
        Sentence.holds(27, "BAD; ", () -> {
            Due.within("turns(l, 0)", () -> withLaws("W0,1"), (x, v) -> x.turns(v, 0), 0, 1);
            Due.within("turns(0, which)", () -> withLaws("W0,1"), (x, v) -> x.turns(0, v), 0, 1);
            ThinAir x = new ThinAir();
            Due.bad(x, "turns(0, 2), ahead of NOTHING", () -> x.turns(0, 2));
        });
        Sentence.holds(27, "NOTHING.", () -> {
            ThinAir x = new ThinAir();
            Due.finds(x, "turns(0, 0)", () -> x.turns(0, 0), NOTHING);
            Due.finds(x, "turns(1, 1)", () -> x.turns(1, 1), NOTHING);
            x.text(0, 0);
            x.laws(1, 0);
            Due.finds(x, "turns(0, 0), others being there", () -> x.turns(0, 0), NOTHING);
            Due.is("turns(1, 0)", x.turns(1, 0), NONE);
        });
    }
}
