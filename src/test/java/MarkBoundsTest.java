/** Promises 10 to 19 at their boundaries: places, marks, kinds, what is told of them. */
public final class MarkBoundsTest {
    private static final int NONE = ThinAir.NONE;
    private static final int MIN = Integer.MIN_VALUE;
    private static final int MAX = Integer.MAX_VALUE;
    private static final int NOTHING = 1, UNLIKE = 3, SIZE = 5;

    public static void main(String[] args) {
        place();
        mark();
        marks();
        marksOrder();
        help();
        paper();
        cut();
        strike();
        told();
        tells();
        about();
        Sentence.end(10, 19);
    }

    private static ThinAir withPlaces(int many) {
        ThinAir x = new ThinAir();
        for (int p = 0; p < many; p++) {
            x.place(p, 20 - p, p % 2, p % 4);
        }
        return x;
    }

    /** Two places; marks of persons 0, 1, .. in turn. */
    private static ThinAir withMarks(int many) {
        ThinAir x = withPlaces(2);
        for (int m = 0; m < many; m++) {
            x.mark(m % 12, m % 2, 1000 + m, m % 5, m % 4);
        }
        return x;
    }

    /** Six marks, each m of KIND m. */
    private static ThinAir withKinds() {
        ThinAir x = withMarks(6);
        x.later(9);
        x.help(1, 11, NONE);
        x.help(2, 12, 4);
        x.paper(3, 13);
        x.cut(4, 14);
        x.strike(5, 6);
        x.later(1);
        return x;
    }

    private static void place() {
        Sentence.holds(10, "A PLACE: its number.", () -> {
            ThinAir x = new ThinAir();
            for (int p = 0; p < 8; p++) {
                Due.is("place " + p, x.place(0, 0, 0, 0), p);
                Due.is("count(1)", x.count(1), p + 1);
            }
        });
        Sentence.holds(10, "BAD; ", () -> {
            Due.within("place(height, 0, 0, 0)", ThinAir::new, (x, v) -> x.place(v, 0, 0, 0), 0, 40);
            Due.within("place(0, heat, 0, 0)", ThinAir::new, (x, v) -> x.place(0, v, 0, 0), -20, 50);
            Due.within("place(0, 0, floor, 0)", ThinAir::new, (x, v) -> x.place(0, 0, v, 0), 0, 1);
            Due.within("place(0, 0, 0, land)", ThinAir::new, (x, v) -> x.place(0, 0, 0, v), 0, 3);
        });
        Sentence.holds(10, "FULL.", () -> {
            ThinAir x = withPlaces(7);
            Due.is("the eighth", x.place(40, 50, 1, 3), 7);
            Due.full(x, "the ninth", () -> x.place(0, 0, 0, 0));
            Due.full(x, "the ninth, as the eighth", () -> x.place(40, 50, 1, 3));
            Due.bad(x, "the ninth: BAD ahead of FULL, height", () -> x.place(41, 0, 0, 0));
            Due.bad(x, "the ninth: BAD ahead of FULL, heat", () -> x.place(0, -21, 0, 0));
            Due.bad(x, "the ninth: BAD ahead of FULL, floor", () -> x.place(0, 0, 2, 0));
            Due.bad(x, "the ninth: BAD ahead of FULL, land", () -> x.place(0, 0, 0, 4));
        });
    }

    private static void mark() {
        Sentence.holds(11, "A MARK: its number.", () -> {
            ThinAir x = withPlaces(1);
            for (int m = 0; m < 40; m++) {
                Due.is("mark " + m, x.mark(0, 0, 1, 0, 0), m);
                Due.is("count(2)", x.count(2), m + 1);
            }
        });
        Sentence.holds(11, "BAD; ", () -> {
            Due.within("mark(person, 0, 1, 0, 0)", () -> withPlaces(1), (x, v) -> x.mark(v, 0, 1, 0, 0), 0, 11);
            Due.within("mark(0, place, 1, 0, 0) of one", () -> withPlaces(1), (x, v) -> x.mark(0, v, 1, 0, 0), 0, 0);
            Due.within("mark(0, place, 1, 0, 0) of three", () -> withPlaces(3), (x, v) -> x.mark(0, v, 1, 0, 0), 0, 2);
            Due.within("mark(0, place, 1, 0, 0) of eight", () -> withPlaces(8), (x, v) -> x.mark(0, v, 1, 0, 0), 0, 7);
            Due.within("mark(0, 0, value, 0, 0)", () -> withPlaces(1), (x, v) -> x.mark(0, 0, v, 0, 0), 1, 9999);
            Due.within("mark(0, 0, 1, wind, 0)", () -> withPlaces(1), (x, v) -> x.mark(0, 0, 1, v, 0), -60, 60);
            Due.within("mark(0, 0, 1, NONE, 0)", () -> withPlaces(1), (x, v) -> x.mark(0, 0, 1, v, 0), NONE, NONE);
            Due.within("mark(0, 0, 1, 0, shoe)", () -> withPlaces(1), (x, v) -> x.mark(0, 0, 1, 0, v), 0, 3);
            ThinAir x = new ThinAir();
            Due.bad(x, "mark(0, 0, 1, 0, 0) without a place", () -> x.mark(0, 0, 1, 0, 0));
        });
        Sentence.holds(11, "FULL.", () -> {
            ThinAir x = withMarks(39);
            Due.is("the fortieth", x.mark(0, 0, 1, 0, 0), 39);
            Due.full(x, "the 41st", () -> x.mark(0, 0, 1, 0, 0));
            Due.bad(x, "the 41st: BAD ahead of FULL, person", () -> x.mark(12, 0, 1, 0, 0));
            Due.bad(x, "the 41st: BAD ahead of FULL, place", () -> x.mark(0, 2, 1, 0, 0));
            Due.bad(x, "the 41st: BAD ahead of FULL, value", () -> x.mark(0, 0, 0, 0, 0));
            Due.bad(x, "the 41st: BAD ahead of FULL, wind", () -> x.mark(0, 0, 1, 61, 0));
            Due.bad(x, "the 41st: BAD ahead of FULL, shoe", () -> x.mark(0, 0, 1, 0, 4));
            x.strike(0, 0);
            Due.full(x, "the 41st, one being STRUCK", () -> x.mark(0, 0, 1, 0, 0));
        });
    }

    /** One place, and row 3 of triples of 1. */
    private static ThinAir withTriples(int triples) {
        ThinAir x = withPlaces(1);
        x.row(3, 3 * triples);
        for (int i = 0; i < 3 * triples; i++) {
            x.lay(3, i, 1);
        }
        return x;
    }

    private static void marks() {
        Sentence.holds(12, "MARKS of a PERSON at a PLACE by a ROW of triples (VALUE, WIND, SHOE): how many.", () -> {
            ThinAir x = withPlaces(2);
            x.later(9999);
            Due.fill(x, 5, 1, -60, 0, 9999, 60, 3, 5, NONE, 1);
            Due.is("marks(11, 1, 5)", x.marks(11, 1, 5), 3);
            int[][] want = {{0, 11, 1, 9999, 1, -60, 0}, {0, 11, 1, 9999, 9999, 60, 3}, {0, 11, 1, 9999, 5, NONE, 1}};
            for (int m = 0; m < 3; m++) {
                for (int what = 0; what <= 6; what++) {
                    Due.tells(x, "told(" + m + ", " + what + ")", x.told(m, what), 1, want[m][what]);
                }
            }
            x.row(0, 0);
            Due.is("marks(0, 0, 0) of no triples", x.marks(0, 0, 0), 0);
            Due.is("count(2)", x.count(2), 3);
            ThinAir most = withTriples(13);
            Due.is("marks(0, 0, 3) of 13 triples", most.marks(0, 0, 3), 13);
        });
        Sentence.holds(12, "BAD; ", () -> {
            Due.within("marks(person, 0, 3)", () -> withTriples(1), (x, v) -> x.marks(v, 0, 3), 0, 11);
            Due.within("marks(0, place, 3)", () -> withTriples(1), (x, v) -> x.marks(0, v, 3), 0, 0);
            Due.within("marks(0, 0, r)", () -> {
                ThinAir x = withTriples(1);
                for (int r = 0; r < 6; r++) {
                    x.row(r, 0);
                }
                return x;
            }, (x, v) -> x.marks(0, 0, v), 0, 5);
            ThinAir x = withTriples(1);
            Due.bad(x, "marks(12, 0, 0), ahead of NOTHING", () -> x.marks(12, 0, 0));
            Due.bad(x, "marks(0, 1, 0), ahead of NOTHING", () -> x.marks(0, 1, 0));
        });
        Sentence.holds(12, "NOTHING; ", () -> {
            ThinAir x = withTriples(1);
            Due.finds(x, "marks(0, 0, 2)", () -> x.marks(0, 0, 2), NOTHING);
            x.tear(3);
            Due.finds(x, "marks(0, 0, 3) torn", () -> x.marks(0, 0, 3), NOTHING);
        });
        Sentence.holds(12, "SIZE: not by threes; ", () -> {
            for (int size = 0; size <= 40; size++) {
                ThinAir x = withPlaces(1);
                x.row(3, size);
                for (int i = 0; i < size; i++) {
                    x.lay(3, i, 1);
                }
                if (size % 3 == 0) {
                    Due.is("marks(0, 0, 3) of " + size + " ints", x.marks(0, 0, 3), size / 3);
                } else {
                    Due.finds(x, "marks(0, 0, 3) of " + size + " ints", () -> x.marks(0, 0, 3), SIZE);
                }
            }
        });
    }

    private static void addMarks(ThinAir x, int many) {
        for (int m = 0; m < many; m++) {
            x.mark(0, 0, 1, 0, 0);
        }
    }

    private static void marksOrder() {
        Sentence.holds(12, "FULL: not all would go; ", () -> {
            ThinAir x = withTriples(3);
            addMarks(x, 37);
            Due.is("marks(0, 0, 3): the last three", x.marks(0, 0, 3), 3);
            ThinAir y = withTriples(3);
            addMarks(y, 38);
            Due.full(y, "marks(0, 0, 3): two are left", () -> y.marks(0, 0, 3));
            y.row(3, 0);
            addMarks(y, 2);
            Due.is("marks(0, 0, 3): none of no room", y.marks(0, 0, 3), 0);
            Due.fill(y, 3, 1, 1, 1);
            Due.full(y, "marks(0, 0, 3): one of no room", () -> y.marks(0, 0, 3));
        });
        Sentence.holds(12, "UNLIKE: a number.", () -> {
            int[][] unlike = {{0, 0, 0}, {10000, 0, 0}, {MIN, 0, 0}, {MAX, 0, 0}, {1, -61, 0}, {1, 61, 0}, {1, MIN, 0},
                {1, MAX, 0}, {1, NONE - 1, 0}, {1, NONE + 1, 0}, {1, 0, -1}, {1, 0, 4}, {1, 0, MIN}, {1, 0, MAX}};
            for (int[] a : unlike) {
                for (int at = 0; at < 3; at++) {
                    ThinAir x = withTriples(3);
                    for (int i = 0; i < 3; i++) {
                        x.lay(3, 3 * at + i, a[i]);
                    }
                    Due.finds(x, "marks(0, 0, 3), triple " + at + " of " + a[0] + ", " + a[1] + ", " + a[2],
                        () -> x.marks(0, 0, 3), UNLIKE);
                }
            }
            for (int[] a : new int[][] {{1, 0, 0}, {9999, 0, 0}, {1, -60, 0}, {1, 60, 0}, {1, NONE, 0}, {1, 0, 3}}) {
                ThinAir x = withPlaces(1);
                Due.fill(x, 0, a);
                Due.is("marks(0, 0, 0) of " + a[0] + ", " + a[1] + ", " + a[2], x.marks(0, 0, 0), 1);
            }
        });
        Sentence.holds(12, "(In this order; all or none.)", () -> {
            ThinAir x = withTriples(1);
            addMarks(x, 40);
            Due.bad(x, "BAD ahead of NOTHING", () -> x.marks(-1, 0, 0));
            Due.bad(x, "BAD ahead of FULL", () -> x.marks(0, -1, 3));
            Due.finds(x, "NOTHING ahead of FULL", () -> x.marks(0, 0, 0), NOTHING);
            x.row(3, 4);
            Due.finds(x, "SIZE ahead of FULL", () -> x.marks(0, 0, 3), SIZE);
            x.row(3, 3);
            Due.full(x, "FULL ahead of UNLIKE", () -> x.marks(0, 0, 3));
            ThinAir y = withPlaces(1);
            y.row(3, 4);
            Due.finds(y, "SIZE ahead of UNLIKE", () -> y.marks(0, 0, 3), SIZE);
        });
    }

    private static void isOfKind(ThinAir x, int m, int kind) {
        Due.tells(x, "told(" + m + ", 0)", x.told(m, 0), 1, kind);
    }

    private static void help() {
        Sentence.holds(13, "A MARK of KIND 0 is HELPED (hand NONE) or GAUGED (0 .. 5) by so much: 1.", () -> {
            for (int hand : new int[] {NONE, 0, 1, 4, 5}) {
                for (int much : new int[] {1, 999}) {
                    ThinAir x = withMarks(2);
                    Due.is("help(1, " + much + ", " + hand + ")", x.help(1, much, hand), 1);
                    isOfKind(x, 1, hand == NONE ? 1 : 2);
                    isOfKind(x, 0, 0);
                    Due.is("tells(1, 1)", x.tells(1, 1), much);
                }
            }
        });
        Sentence.holds(13, "BAD; ", () -> {
            Due.within("help(m, 1, 0) of four", () -> withMarks(4), (x, v) -> x.help(v, 1, 0), 0, 3);
            Due.within("help(m, 1, 0) of forty", () -> withMarks(40), (x, v) -> x.help(v, 1, 0), 0, 39);
            Due.within("help(0, much, 0)", () -> withMarks(1), (x, v) -> x.help(0, v, 0), 1, 999);
            Due.within("help(0, much, NONE)", () -> withMarks(1), (x, v) -> x.help(0, v, NONE), 1, 999);
            Due.within("help(0, 1, hand)", () -> withMarks(1), (x, v) -> x.help(0, 1, v), 0, 5);
            Due.within("help(0, 1, NONE)", () -> withMarks(1), (x, v) -> x.help(0, 1, v), NONE, NONE);
            ThinAir x = withKinds();
            Due.bad(x, "help(1, 0, NONE), ahead of UNLIKE", () -> x.help(1, 0, NONE));
            Due.bad(x, "help(1, 1, 6), ahead of UNLIKE", () -> x.help(1, 1, 6));
        });
        Sentence.holds(13, "UNLIKE.", () -> {
            ThinAir x = withKinds();
            for (int m = 1; m <= 5; m++) {
                int mark = m;
                Due.finds(x, "help(" + m + ", 1, NONE)", () -> x.help(mark, 1, NONE), UNLIKE);
                Due.finds(x, "help(" + m + ", 1, 0)", () -> x.help(mark, 1, 0), UNLIKE);
            }
            Due.is("help(0, 1, 0)", x.help(0, 1, 0), 1);
        });
    }

    private static void paper() {
        Sentence.holds(14, "A MARK of KIND 0 is LATER, as papers of TODAY told, by so much: 1.", () -> {
            for (int day : new int[] {0, 1, 9999}) {
                for (int much : new int[] {1, 999}) {
                    ThinAir x = withMarks(1);
                    x.later(day);
                    Due.is("paper(0, " + much + ")", x.paper(0, much), 1);
                    isOfKind(x, 0, 3);
                    Due.is("tells(0, 3)", x.tells(0, 3), day);
                    Due.is("tells(0, 1)", x.tells(0, 1), much);
                }
            }
        });
        Sentence.holds(14, "BAD; ", () -> {
            Due.within("paper(m, 1)", () -> withMarks(4), (x, v) -> x.paper(v, 1), 0, 3);
            Due.within("paper(0, much)", () -> withMarks(1), (x, v) -> x.paper(0, v), 1, 999);
            ThinAir x = withKinds();
            Due.bad(x, "paper(3, 0), ahead of UNLIKE", () -> x.paper(3, 0));
        });
        Sentence.holds(14, "UNLIKE.", () -> {
            ThinAir x = withKinds();
            for (int m = 1; m <= 5; m++) {
                int mark = m;
                Due.finds(x, "paper(" + m + ", 1)", () -> x.paper(mark, 1), UNLIKE);
            }
            Due.is("paper(0, 1)", x.paper(0, 1), 1);
        });
    }

    private static void cut() {
        Sentence.holds(15, "A MARK of KIND 0 is SHORT by so much: 1.", () -> {
            for (int much : new int[] {1, 999}) {
                ThinAir x = withMarks(1);
                Due.is("cut(0, " + much + ")", x.cut(0, much), 1);
                isOfKind(x, 0, 4);
                Due.is("tells(0, 4)", x.tells(0, 4), much);
            }
        });
        Sentence.holds(15, "BAD; ", () -> {
            Due.within("cut(m, 1)", () -> withMarks(4), (x, v) -> x.cut(v, 1), 0, 3);
            Due.within("cut(0, much)", () -> withMarks(1), (x, v) -> x.cut(0, v), 1, 999);
            ThinAir x = withKinds();
            Due.bad(x, "cut(4, 1000), ahead of UNLIKE", () -> x.cut(4, 1000));
        });
        Sentence.holds(15, "UNLIKE.", () -> {
            ThinAir x = withKinds();
            for (int m = 1; m <= 5; m++) {
                int mark = m;
                Due.finds(x, "cut(" + m + ", 1)", () -> x.cut(mark, 1), UNLIKE);
            }
            Due.is("cut(0, 1)", x.cut(0, 1), 1);
        });
    }

    private static void strike() {
        Sentence.holds(16, "A MARK (not STRUCK) is STRUCK since TODAY for a reason: what KIND it was.", () -> {
            ThinAir x = withKinds();
            for (int m = 0; m <= 4; m++) {
                Due.is("strike(" + m + ", 0)", x.strike(m, 0), m);
                isOfKind(x, m, 5);
                Due.is("tells(" + m + ", 5)", x.tells(m, 5), 10);
            }
            ThinAir last = withMarks(1);
            last.later(9999);
            Due.is("strike(0, 9) on the last day", last.strike(0, 9), 0);
            Due.is("tells(0, 5)", last.tells(0, 5), 99999);
        });
        Sentence.holds(16, "BAD; ", () -> {
            Due.within("strike(m, 0)", () -> withMarks(4), (x, v) -> x.strike(v, 0), 0, 3);
            Due.within("strike(0, reason)", () -> withMarks(1), (x, v) -> x.strike(0, v), 0, 9);
            ThinAir x = withKinds();
            Due.bad(x, "strike(5, 10), ahead of UNLIKE", () -> x.strike(5, 10));
        });
        Sentence.holds(16, "UNLIKE.", () -> {
            ThinAir x = withKinds();
            Due.finds(x, "strike(5, 0)", () -> x.strike(5, 0), UNLIKE);
            Due.finds(x, "strike(5, 6), as it was", () -> x.strike(5, 6), UNLIKE);
            Due.is("strike(4, 0)", x.strike(4, 0), 4);
            Due.finds(x, "strike(4, 0) twice", () -> x.strike(4, 0), UNLIKE);
        });
    }

    private static void told() {
        Sentence.holds(17, "Of a MARK: 0 its KIND, 1 PERSON, 2 PLACE, 3 day, 4 VALUE, 5 WIND, 6 SHOE,", () -> {
            ThinAir x = withPlaces(8);
            x.later(9999);
            x.mark(11, 7, 9999, 60, 3);
            x.mark(0, 0, 1, -60, 0);
            x.mark(0, 0, 1, NONE, 0);
            int[][] want = {{0, 11, 7, 9999, 9999, 60, 3}, {0, 0, 0, 9999, 1, -60, 0}, {0, 0, 0, 9999, 1, NONE, 0}};
            for (int m = 0; m < 3; m++) {
                for (int what = 0; what <= 6; what++) {
                    Due.tells(x, "told(" + m + ", " + what + ")", x.told(m, what), 1, want[m][what]);
                }
            }
        });
        Sentence.holds(17, "BAD.", () -> {
            Due.within("told(m, 0)", () -> withMarks(4), (x, v) -> x.told(v, 0), 0, 3);
            Due.within("told(m, 0) of forty", () -> withMarks(40), (x, v) -> x.told(v, 0), 0, 39);
            Due.within("told(0, what)", () -> withMarks(1), (x, v) -> x.told(0, v), 0, 6);
        });
    }

    private static void tells() {
        int[][] tales = {{-1, -1, -1, -1, -1}, {11, -1, -1, -1, -1}, {12, 4, -1, -1, -1}, {13, -1, 9, -1, -1},
            {-1, -1, -1, 14, -1}, {-1, -1, -1, -1, 60009}};
        Sentence.holds(18, "a HELPED one (GAUGED, LATER, too) by how much, a GAUGED one its hand, a LATER one the"
                + " day of papers, a SHORT one by how much, a STRUCK one 10000 times its reason, and since when.",
            () -> {
            ThinAir x = withKinds();
            for (int m = 0; m < 6; m++) {
                for (int kind = 1; kind <= 5; kind++) {
                    if (tales[m][kind - 1] >= 0) {
                        Due.is("tells(" + m + ", " + kind + ")", x.tells(m, kind), tales[m][kind - 1]);
                    }
                }
            }
            ThinAir least = withMarks(2);
            least.help(0, 1, 0);
            least.strike(1, 0);
            Due.is("tells(0, 2) of hand 0", least.tells(0, 2), 0);
            Due.is("tells(1, 5) of reason 0, day 0", least.tells(1, 5), 0);
        });
        Sentence.holds(18, "BAD: also KIND 0; ", () -> {
            ThinAir x = withKinds();
            for (int m = 0; m < 6; m++) {
                int mark = m;
                for (int kind : new int[] {MIN, -1, 0, 6, MAX}) {
                    Due.bad(x, "tells(" + m + ", " + kind + ")", () -> x.tells(mark, kind));
                }
            }
            Due.is("tells(1, 1)", x.tells(1, 1), 11);
            Due.is("tells(5, 5)", x.tells(5, 5), 60009);
            Due.within("tells(m, 4)", () -> {
                ThinAir y = withMarks(3);
                for (int m = 0; m < 3; m++) {
                    y.cut(m, 1);
                }
                return y;
            }, (y, v) -> y.tells(v, 4), 0, 2);
        });
        Sentence.holds(18, "UNLIKE.", () -> {
            ThinAir x = withKinds();
            for (int m = 0; m < 6; m++) {
                int mark = m;
                for (int kind = 1; kind <= 5; kind++) {
                    int of = kind;
                    if (tales[m][kind - 1] < 0) {
                        Due.finds(x, "tells(" + m + ", " + kind + ")", () -> x.tells(mark, of), UNLIKE);
                    }
                }
            }
            for (int m = 1; m <= 4; m++) {
                int mark = m;
                x.strike(m, 0);
                Due.finds(x, "tells(" + m + ", " + m + "), being STRUCK", () -> x.tells(mark, mark), UNLIKE);
                Due.finds(x, "tells(" + m + ", 1), being STRUCK", () -> x.tells(mark, 1), UNLIKE);
            }
        });
    }

    private static void about() {
        Sentence.holds(19, "Of a PLACE: 0 HEIGHT, 1 HEAT, 2 FLOOR, 3 LAND, told by asked(): 1.", () -> {
            ThinAir x = new ThinAir();
            int[][] want = {{0, -20, 0, 0}, {40, 50, 1, 3}};
            for (int p = 0; p < 2; p++) {
                x.place(want[p][0], want[p][1], want[p][2], want[p][3]);
                for (int what = 0; what <= 3; what++) {
                    Due.tells(x, "about(" + p + ", " + what + ")", x.about(p, what), 1, want[p][what]);
                }
            }
        });
        Sentence.holds(19, "BAD.", () -> {
            Due.within("about(p, 0) of one", () -> withPlaces(1), (x, v) -> x.about(v, 0), 0, 0);
            Due.within("about(p, 0) of eight", () -> withPlaces(8), (x, v) -> x.about(v, 0), 0, 7);
            Due.within("about(0, what)", () -> withPlaces(1), (x, v) -> x.about(0, v), 0, 3);
        });
    }
}
