import java.util.function.ToIntFunction;

/** The document's Terms at their boundaries: refusals, and part 1 (rows, texts, days, places, marks, kinds). */
public final class TermsBoundsTest {
    private static final int NONE = ThinAir.NONE;
    private static final int NOTHING = 1, BEYOND = 2, UNLIKE = 3, NOUGHT = 4, SIZE = 5;

    public static void main(String[] args) {
        order();
        answers();
        changesNothing();
        findings();
        fractions();
        rowsAndTexts();
        days();
        places();
        marks();
        kinds();
        TermsOfLaws.run();
        TermsOfLists.run();
        Sentence.end(Sentence.TERMS, Sentence.TERMS);
    }

    /** No room is left, and no day; TEXTS: no items, at FAULT, of 'v', missing; ROWS of 3, 4, 0 ints, missing ones. */
    private static ThinAir full() {
        ThinAir x = new ThinAir();
        for (int p = 0; p < 8; p++) {
            x.place(p, 20 + p, p % 2, p % 4);
        }
        for (int m = 0; m < 40; m++) {
            x.mark(m % 12, m % 8, 1000 + m, m % 2 == 0 ? m : NONE, m % 4);
        }
        x.help(1, 1, NONE);
        x.strike(2, 3);
        x.row(0, 3);
        x.row(1, 4);
        x.row(2, 0);
        x.text(0, 0);
        Due.write(x, 1, "vx");
        Due.write(x, 2, "v");
        x.told(0, 4);
        x.fall(4, 3);
        x.later(9999);
        return x;
    }

    private static void isBad(String call, ToIntFunction<ThinAir> run) {
        ThinAir x = full();
        Due.bad(x, call, () -> run.applyAsInt(x));
    }

    private static void order() {
        Sentence.ofTerms("Refused is, the first of these that fits, in this order: BAD -1 (a number that is none,"
                + " or not as told), FULL -2, STATE -4 (not now), FINDING -3 (finding() tells which), unless a call"
                + " says so otherwise.", () -> {
            isBad("place(41, 20, 0, 0): BAD ahead of FULL", x -> x.place(41, 20, 0, 0));
            isBad("mark(0, 0, 0, 0, 0): BAD ahead of FULL", x -> x.mark(0, 0, 0, 0, 0));
            isBad("marks(12, 0, 0): BAD ahead of FULL", x -> x.marks(12, 0, 0));
            isBad("laws(2, 1): BAD ahead of STATE", x -> x.laws(2, 1));
            isBad("listed(1, -1): BAD ahead of STATE", x -> x.listed(1, -1));
            isBad("gains(1, 4): BAD ahead of STATE", x -> x.gains(1, 4));
            isBad("crowd(1, 4, 0, 1): BAD ahead of STATE", x -> x.crowd(1, 4, 0, 1));
            isBad("row(6, -1): BAD ahead of SIZE", x -> x.row(6, -1));
            isBad("text(4, -1): BAD ahead of SIZE", x -> x.text(4, -1));
            isBad("copy(6, 0, 5, 0, -1): BAD ahead of SIZE", x -> x.copy(6, 0, 5, 0, -1));
            isBad("help(1, 0, NONE): BAD ahead of UNLIKE", x -> x.help(1, 0, NONE));
            isBad("paper(1, 0): BAD ahead of UNLIKE", x -> x.paper(1, 0));
            isBad("cut(1, 0): BAD ahead of UNLIKE", x -> x.cut(1, 0));
            isBad("strike(2, 10): BAD ahead of UNLIKE", x -> x.strike(2, 10));
            isBad("tells(0, 0): BAD ahead of UNLIKE", x -> x.tells(0, 0));
            isBad("number(0, 10): BAD ahead of NOTHING", x -> x.number(0, 10));
            isBad("gives(0, 40): BAD ahead of NOTHING", x -> x.gives(0, 40));
            isBad("turns(0, 2): BAD ahead of NOTHING", x -> x.turns(0, 2));
            isBad("listed(3, -1): BAD ahead of NOTHING", x -> x.listed(3, -1));
            isBad("crowd(3, 0, 28, 1): BAD ahead of NOTHING", x -> x.crowd(3, 0, 28, 1));
            ThinAir x = full();
            Due.full(x, "marks(0, 0, 0): FULL ahead of UNLIKE", () -> x.marks(0, 0, 0));
            Due.finds(x, "marks(0, 0, 5): NOTHING ahead of FULL, as it says", () -> x.marks(0, 0, 5), NOTHING);
            Due.finds(x, "marks(0, 0, 1): SIZE ahead of FULL, as it says", () -> x.marks(0, 0, 1), SIZE);
            Due.state(x, "list(1): STATE ahead of NOTHING of LAWS", () -> x.list(1));
            Due.state(x, "listed(1, 0): STATE ahead of NOTHING of LAWS", () -> x.listed(1, 0));
            Due.state(x, "gains(2, 1): STATE ahead of NOTHING of LAWS", () -> x.gains(2, 1));
            Due.state(x, "far(1): STATE ahead of NOTHING of LAWS", () -> x.far(1));
            Due.state(x, "crowd(1, 0, 27, 40): STATE ahead of NOUGHT", () -> x.crowd(1, 0, 27, 40));
            Due.finds(x, "crowd(2, 0, 27, 40): NOTHING ahead of NOUGHT", () -> x.crowd(2, 0, 27, 40), NOTHING);
        });
    }

    private static void answers() {
        Sentence.ofTerms("NONE -9999.", () -> {
            Due.is("BAD", ThinAir.BAD, -1);
            Due.is("FULL", ThinAir.FULL, -2);
            Due.is("FINDING", ThinAir.FINDING, -3);
            Due.is("STATE", ThinAir.STATE, -4);
            Due.is("NONE", ThinAir.NONE, -9999);
        });
    }

    /** Each call refused once in each way that it has. */
    private static void changesNothing() {
        Sentence.ofTerms("What is refused changes nothing but finding(), findings().", () -> {
            ThinAir x = full();
            Due.bad(x, "row(0, 41)", () -> x.row(0, 41));
            Due.finds(x, "row(0, -1)", () -> x.row(0, -1), SIZE);
            Due.finds(x, "lay(5, 0, 9)", () -> x.lay(5, 0, 9), NOTHING);
            Due.finds(x, "lay(0, 3, 9)", () -> x.lay(0, 3, 9), BEYOND);
            Due.finds(x, "tear(5)", () -> x.tear(5), NOTHING);
            Due.finds(x, "copy(0, 0, 1, 2, 3)", () -> x.copy(0, 0, 1, 2, 3), BEYOND);
            Due.finds(x, "copy(0, 0, 1, 0, -1)", () -> x.copy(0, 0, 1, 0, -1), SIZE);
            Due.finds(x, "copy(0, 0, 5, 0, 1)", () -> x.copy(0, 0, 5, 0, 1), NOTHING);
            Due.finds(x, "mean(2)", () -> x.mean(2), NOUGHT);
            Due.bad(x, "text(0, 41)", () -> x.text(0, 41));
            Due.finds(x, "text(2, -1)", () -> x.text(2, -1), SIZE);
            Due.finds(x, "put(3, 0, 9)", () -> x.put(3, 0, 9), NOTHING);
            Due.finds(x, "put(2, 1, 9)", () -> x.put(2, 1, 9), BEYOND);
            Due.bad(x, "later(1)", () -> x.later(1));
            Due.bad(x, "later(-1)", () -> x.later(-1));
            Due.full(x, "place(0, 20, 0, 0)", () -> x.place(0, 20, 0, 0));
            Due.full(x, "mark(0, 0, 1, 0, 0)", () -> x.mark(0, 0, 1, 0, 0));
            Due.full(x, "marks(0, 0, 0)", () -> x.marks(0, 0, 0));
            Due.finds(x, "help(1, 5, 5)", () -> x.help(1, 5, 5), UNLIKE);
            Due.finds(x, "paper(1, 5)", () -> x.paper(1, 5), UNLIKE);
            Due.finds(x, "cut(1, 5)", () -> x.cut(1, 5), UNLIKE);
            Due.finds(x, "strike(2, 5)", () -> x.strike(2, 5), UNLIKE);
            Due.bad(x, "told(40, 0)", () -> x.told(40, 0));
            Due.finds(x, "tells(0, 1)", () -> x.tells(0, 1), UNLIKE);
            Due.bad(x, "about(8, 0)", () -> x.about(8, 0));
        });
        Sentence.ofTerms("What is refused changes nothing", () -> {
            ThinAir x = full();
            Due.finds(x, "fault(3, true)", () -> x.fault(3, true), NOTHING);
            Due.finds(x, "laws(0, 3)", () -> x.laws(0, 3), NOTHING);
            Due.state(x, "laws(0, 1)", () -> x.laws(0, 1));
            Due.finds(x, "number(0, 0)", () -> x.number(0, 0), NOTHING);
            Due.finds(x, "gives(0, 0)", () -> x.gives(0, 0), NOTHING);
            Due.finds(x, "home(0, 0)", () -> x.home(0, 0), NOTHING);
            Due.finds(x, "span(0, 0)", () -> x.span(0, 0), NOTHING);
            Due.finds(x, "sure(0, 0, 1)", () -> x.sure(0, 0, 1), NOTHING);
            Due.finds(x, "turns(0, 0)", () -> x.turns(0, 0), NOTHING);
            Due.bad(x, "pairs(5)", () -> x.pairs(5));
            Due.bad(x, "learn(4)", () -> x.learn(4));
            Due.finds(x, "learn(3)", () -> x.learn(3), NOUGHT);
            Due.finds(x, "just(-58)", () -> x.just(-58), NOUGHT);
            Due.state(x, "list(1)", () -> x.list(1));
            Due.finds(x, "list(2)", () -> x.list(2), NOTHING);
            Due.state(x, "listed(1, 0)", () -> x.listed(1, 0));
            Due.finds(x, "listed(2, 0)", () -> x.listed(2, 0), NOTHING);
            Due.state(x, "gains(0, 1)", () -> x.gains(0, 1));
            Due.finds(x, "gains(0, 2)", () -> x.gains(0, 2), NOTHING);
            Due.state(x, "far(1)", () -> x.far(1));
            Due.finds(x, "far(3)", () -> x.far(3), NOTHING);
            Due.bad(x, "fall(0, 0)", () -> x.fall(0, 0));
            Due.finds(x, "crowd(0, 0, 27, 1)", () -> x.crowd(0, 0, 27, 1), NOUGHT);
            Due.bad(x, "count(8)", () -> x.count(8));
            Due.bad(x, "findings(6)", () -> x.findings(6));
        });
    }

    private static void findings() {
        Sentence.ofTerms("FINDINGS: 1 NOTHING (a ROW, a TEXT, LAWS that are missing), 2 BEYOND (a place that there"
                + " is not), 3 UNLIKE (a MARK of another KIND; a number that is none), 4 NOUGHT (shared among"
                + " none), 5 SIZE (fewer than none; not as many as due).", () -> {
            ThinAir x = full();
            Due.finds(x, "mean(5): a ROW", () -> x.mean(5), 1);
            Due.finds(x, "list(3): a TEXT", () -> x.list(3), 1);
            Due.finds(x, "turns(1, 1): LAWS", () -> x.turns(1, 1), 1);
            Due.finds(x, "lay(0, 3, 0): a place that there is not", () -> x.lay(0, 3, 0), 2);
            Due.finds(x, "strike(2, 0): a MARK of another KIND", () -> x.strike(2, 0), 3);
            ThinAir one = new ThinAir();
            one.place(0, 0, 0, 0);
            one.row(0, 3);
            Due.finds(one, "marks(0, 0, 0): a number that is none", () -> one.marks(0, 0, 0), 3);
            Due.finds(x, "mean(2): shared among none", () -> x.mean(2), 4);
            Due.finds(x, "row(0, -1): fewer than none", () -> x.row(0, -1), 5);
            Due.finds(x, "marks(0, 0, 1): not as many as due", () -> x.marks(0, 0, 1), 5);
        });
    }

    private static void fractions() {
        Sentence.ofTerms("Fractions are told by upper() (may be below 0) and lower(), in lowest terms, the lower"
                + " number above 0 (0 by 1).", () -> {
            ThinAir x = new ThinAir();
            x.place(0, 20, 0, 0);
            x.mark(0, 0, 100, 0, 0);
            x.mark(0, 0, 94, 9, 0);
            Due.fraction(x, "learn(0) below 0", x.learn(0), 1, -2, 3);
            x.mark(0, 0, 112, 18, 0);
            Due.fraction(x, "learn(0) above 0", x.learn(0), 3, 2, 3);
            ThinAir y = new ThinAir();
            y.place(0, 20, 0, 0);
            y.mark(0, 0, 100, 0, 0);
            y.mark(0, 0, 100, 60, 0);
            Due.fraction(y, "learn(0) of 0", y.learn(0), 1, 0, 1);
            Due.fraction(y, "fall(6, 4)", y.fall(6, 4), 1, 2, 5);
            Due.fraction(y, "fall(1, 9999)", y.fall(1, 9999), 1, 9999, 10000);
        });
        Sentence.ofTerms("Sets are told by bits.", () -> {
            for (int person = 0; person < 12; person++) {
                ThinAir x = new ThinAir();
                x.place(0, 20, 0, 0);
                x.mark(person, 0, 100, 0, 1);
                x.text(0, 0);
                Due.write(x, 1, "s1");
                Due.tells(x, "gains(0, 1) of PERSON " + person, x.gains(0, 1), 1, 1 << person);
            }
        });
    }

    private static void rowsAndTexts() {
        Sentence.ofTerms("ROWS 0 .. 5 are rows of 0 to 40 ints, TEXTS 0 .. 3 rows of 0 to 40 bytes, or missing (at"
                + " first).", () -> {
            for (int r = -1; r <= 6; r++) {
                ThinAir x = new ThinAir();
                boolean is = r >= 0 && r <= 5;
                Due.is("tear(" + r + ") at first", x.tear(r), is ? ThinAir.FINDING : ThinAir.BAD);
                Due.is("row(" + r + ", 0)", x.row(r, 0), is ? 0 : ThinAir.BAD);
                Due.is("row(" + r + ", 40)", x.row(r, 40), is ? 40 : ThinAir.BAD);
                Due.is("row(" + r + ", 41)", x.row(r, 41), ThinAir.BAD);
                Due.is("row(" + r + ", -1)", x.row(r, -1), is ? ThinAir.FINDING : ThinAir.BAD);
                Due.is("lay(" + r + ", 39, 1)", x.lay(r, 39, 1), is ? 1 : ThinAir.BAD);
            }
            for (int t = -1; t <= 4; t++) {
                ThinAir x = new ThinAir();
                boolean is = t >= 0 && t <= 3;
                Due.is("fault(" + t + ", true) at first", x.fault(t, true), is ? ThinAir.FINDING : ThinAir.BAD);
                Due.is("text(" + t + ", 0)", x.text(t, 0), is ? 0 : ThinAir.BAD);
                Due.is("text(" + t + ", 40)", x.text(t, 40), is ? 40 : ThinAir.BAD);
                Due.is("text(" + t + ", 41)", x.text(t, 41), ThinAir.BAD);
                Due.is("text(" + t + ", -1)", x.text(t, -1), is ? ThinAir.FINDING : ThinAir.BAD);
                Due.is("put(" + t + ", 39, 1)", x.put(t, 39, 1), is ? 1032 : ThinAir.BAD);
            }
        });
    }

    private static void days() {
        Sentence.ofTerms("TODAY is a day (0 .. 9999; 0 at first), which only goes on.", () -> {
            ThinAir x = new ThinAir();
            Due.is("count(0) at first", x.count(0), 0);
            Due.bad(x, "later(-1) of day 0", () -> x.later(-1));
            Due.bad(x, "later(10000) of day 0", () -> x.later(10000));
            Due.is("later(9998)", x.later(9998), 9998);
            Due.bad(x, "later(2) of day 9998", () -> x.later(2));
            Due.bad(x, "later(-9998) of day 9998", () -> x.later(-9998));
            Due.is("later(1)", x.later(1), 9999);
            Due.bad(x, "later(1) of day 9999", () -> x.later(1));
            Due.bad(x, "later(MAX) of day 9999", () -> x.later(Integer.MAX_VALUE));
            Due.bad(x, "later(MIN) of day 9999", () -> x.later(Integer.MIN_VALUE));
            Due.is("later(0)", x.later(0), 9999);
        });
        Sentence.ofTerms("A YEAR is a day by 365, cut.", () -> {
            for (int year = 0; year <= 27; year++) {
                for (int day : new int[] {365 * year, Math.min(365 * year + 364, 9999)}) {
                    ThinAir x = new ThinAir();
                    x.place(0, 20, 0, 0);
                    x.later(day);
                    x.mark(0, 0, 100, 0, 0);
                    x.text(0, 0);
                    for (int asked = Math.max(year - 1, 0); asked <= Math.min(year + 1, 27); asked++) {
                        Due.is("crowd(0, 0, " + asked + ", 1) of day " + day, x.crowd(0, 0, asked, 1),
                            asked == year ? 1 : ThinAir.FINDING);
                        Due.write(x, 1, "y" + asked);
                        Due.is("list(1) by y" + asked + " of day " + day, x.list(1), asked <= year ? 1 : 0);
                    }
                }
            }
        });
    }

    private static ThinAir withPlace() {
        ThinAir x = new ThinAir();
        x.place(0, 20, 0, 0);
        return x;
    }

    private static ThinAir withMark() {
        ThinAir x = withPlace();
        x.mark(0, 0, 100, 0, 0);
        return x;
    }

    private static void places() {
        Sentence.ofTerms("PLACES 0, 1, .. (8 at most ever) have a HEIGHT (0 .. 40), a HEAT (-20 .. 50), a FLOOR (0"
                + " cinder, 1 rubber), a LAND (0 .. 3).", () -> {
            ThinAir x = new ThinAir();
            for (int p = 0; p < 8; p++) {
                int place = p;
                Due.bad(x, "about(" + p + ", 0) ahead of it", () -> x.about(place, 0));
                Due.is("place " + p, x.place(p, p, 0, 0), p);
                Due.tells(x, "about(" + p + ", 0)", x.about(p, 0), 1, p);
            }
            Due.full(x, "the ninth", () -> x.place(0, 0, 0, 0));
            Due.bad(x, "about(8, 0)", () -> x.about(8, 0));
            Due.within("HEIGHT", ThinAir::new, (y, v) -> y.place(v, 20, 1, 3), 0, 40);
            Due.within("HEAT", ThinAir::new, (y, v) -> y.place(40, v, 1, 3), -20, 50);
            Due.within("FLOOR", ThinAir::new, (y, v) -> y.place(40, 20, v, 3), 0, 1);
            Due.within("LAND", ThinAir::new, (y, v) -> y.place(40, 20, 1, v), 0, 3);
        });
        Sentence.ofTerms("PERSONS are 0 .. 11.", () -> {
            Due.within("mark() of a PERSON", TermsBoundsTest::withPlace, (x, v) -> x.mark(v, 0, 100, 0, 0), 0, 11);
            Due.within("marks() of a PERSON", () -> {
                ThinAir x = withPlace();
                x.row(0, 0);
                return x;
            }, (x, v) -> x.marks(v, 0, 0), 0, 11);
        });
    }

    private static void marks() {
        Sentence.ofTerms("MARKS 0, 1, .. (40 at most ever) are of a PERSON, at a PLACE, TODAY, have a VALUE (1 .."
                + " 9999; the greater the better), a WIND in tenths (-60 .. 60, or NONE: not gauged), a SHOE (0 .."
                + " 3).", () -> {
            ThinAir x = withPlace();
            for (int m = 0; m < 40; m++) {
                int mark = m;
                Due.bad(x, "told(" + m + ", 4) ahead of it", () -> x.told(mark, 4));
                Due.is("mark " + m, x.mark(m % 12, 0, m + 1, 0, 0), m);
                Due.tells(x, "told(" + m + ", 4)", x.told(m, 4), 1, m + 1);
                Due.tells(x, "told(" + m + ", 3)", x.told(m, 3), 1, m);
                x.later(1);
            }
            Due.full(x, "the 41st", () -> x.mark(0, 0, 1, 0, 0));
            Due.bad(x, "told(40, 0)", () -> x.told(40, 0));
            Due.within("VALUE", TermsBoundsTest::withPlace, (y, v) -> y.mark(11, 0, v, 60, 3), 1, 9999);
            Due.within("WIND", TermsBoundsTest::withPlace, (y, v) -> y.mark(11, 0, 9999, v, 3), -60, 60);
            Due.within("WIND NONE", TermsBoundsTest::withPlace, (y, v) -> y.mark(11, 0, 9999, v, 3), NONE, NONE);
            Due.within("SHOE", TermsBoundsTest::withPlace, (y, v) -> y.mark(11, 0, 9999, 60, v), 0, 3);
        });
        Sentence.ofTerms("the greater the better", () -> {
            ThinAir x = withMark();
            x.text(0, 0);
            x.mark(0, 0, 99, 0, 0);
            Due.tells(x, "list(0): one less", x.list(0), 1, 0);
            x.mark(0, 0, 100, 0, 0);
            Due.tells(x, "list(0): one alike", x.list(0), 1, 0);
            x.mark(0, 0, 101, 0, 0);
            Due.tells(x, "list(0): one more", x.list(0), 1, 3);
        });
    }

    private static void kinds() {
        Sentence.ofTerms("KINDS: 0 MARK, 1 HELPED (a MARK: by so much, 1 .. 999), 2 GAUGED (a HELPED: by a hand 0"
                + " .. 5), 3 LATER (a HELPED: as papers of a day told), 4 SHORT (a MARK: the way was less by so"
                + " much, 1 .. 999), 5 STRUCK (a MARK: since a day, for a reason 0 .. 9).", () -> {
            Due.within("HELPED by", TermsBoundsTest::withMark, (x, v) -> x.help(0, v, NONE), 1, 999);
            Due.within("GAUGED by", TermsBoundsTest::withMark, (x, v) -> x.help(0, v, 5), 1, 999);
            Due.within("GAUGED by a hand", TermsBoundsTest::withMark, (x, v) -> x.help(0, 1, v), 0, 5);
            Due.within("LATER by", TermsBoundsTest::withMark, (x, v) -> x.paper(0, v), 1, 999);
            Due.within("SHORT by", TermsBoundsTest::withMark, (x, v) -> x.cut(0, v), 1, 999);
            Due.within("STRUCK for", TermsBoundsTest::withMark, (x, v) -> x.strike(0, v), 0, 9);
        });
        Sentence.ofTerms("A MARK of KIND 0 becomes another one as that is told; one of another KIND only STRUCK.",
            () -> {
            for (int from = 0; from <= 5; from++) {
                for (int to = 1; to <= 5; to++) {
                    ThinAir x = withMark();
                    become(x, from);
                    int turned = to;
                    String call = "KIND " + from + " to KIND " + to;
                    if (from == 0 || to == 5 && from != 5) {
                        Due.is(call, become(x, to), to == 5 ? from : 1);
                        Due.tells(x, call + ": told(0, 0)", x.told(0, 0), 1, to);
                    } else {
                        Due.finds(x, call, () -> become(x, turned), UNLIKE);
                        Due.tells(x, call + ": told(0, 0)", x.told(0, 0), 1, from);
                    }
                }
            }
        });
    }

    private static int become(ThinAir x, int kind) {
        switch (kind) {
            case 0: return 0;
            case 1: return x.help(0, 7, NONE);
            case 2: return x.help(0, 7, 3);
            case 3: return x.paper(0, 7);
            case 4: return x.cut(0, 7);
            default: return x.strike(0, 7);
        }
    }
}
