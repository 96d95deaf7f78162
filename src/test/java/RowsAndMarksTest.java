/** Promises 1 to 19: a new object, rows, texts, places, marks. */
public final class RowsAndMarksTest {
    private static final int NONE = ThinAir.NONE;
    private static final int MIN = Integer.MIN_VALUE;
    private static final int MAX = Integer.MAX_VALUE;
    private static final int NOTHING = 1, BEYOND = 2, UNLIKE = 3, NOUGHT = 4, SIZE = 5;

    public static void main(String[] args) {
        promise1();
        promise2();
        promise3();
        promise4();
        promise5();
        promise6();
        promise7();
        promise8();
        promise9();
        promise10();
        promise11();
        promise12();
        promise13();
        promise14();
        promise15();
        promise16();
        promise17();
        promise18();
        promise19();
        Due.end();
    }

    private static void promise1() {
        ThinAir x = new ThinAir();
        for (int what = 0; what <= 7; what++) {
            Due.is("new: count(" + what + ")", x.count(what), 0);
        }
        for (int r = 0; r < 6; r++) {
            int row = r;
            Due.finds(x, "new: tear(" + r + ")", () -> x.tear(row), NOTHING);
        }
        for (int t = 0; t < 4; t++) {
            int text = t;
            Due.finds(x, "new: put(" + t + ", 0, 1)", () -> x.put(text, 0, 1), NOTHING);
        }
        Due.finds(x, "new: number(0, 0)", () -> x.number(0, 0), NOTHING);
        Due.finds(x, "new: number(1, 0)", () -> x.number(1, 0), NOTHING);
        Due.bad(x, "new: told(0, 0)", () -> x.told(0, 0));
        Due.bad(x, "new: about(0, 0)", () -> x.about(0, 0));
    }

    private static void promise2() {
        ThinAir x = new ThinAir();
        Due.is("row(0, 0)", x.row(0, 0), 0);
        Due.is("row(5, 40)", x.row(5, 40), 40);
        for (int i = 0; i < 40; i++) {
            Due.tells(x, "lay(5, i, 9)", x.lay(5, i, 9), 1, 0);
        }
        Due.is("row(5, 2)", x.row(5, 2), 2);
        Due.tells(x, "lay(5, 1, 1) anew", x.lay(5, 1, 1), 1, 0);
        Due.finds(x, "lay(5, 2, 1)", () -> x.lay(5, 2, 1), BEYOND);
        Due.is("row(5, 40) again", x.row(5, 40), 40);
        Due.tells(x, "lay(5, 39, 1) anew", x.lay(5, 39, 1), 1, 0);
        Due.bad(x, "row(-1, 0)", () -> x.row(-1, 0));
        Due.bad(x, "row(6, 0)", () -> x.row(6, 0));
        Due.bad(x, "row(6, -1)", () -> x.row(6, -1));
        Due.bad(x, "row(0, 41)", () -> x.row(0, 41));
        Due.bad(x, "row(MIN, MAX)", () -> x.row(MIN, MAX));
        Due.finds(x, "row(0, -1)", () -> x.row(0, -1), SIZE);
        Due.finds(x, "row(5, MIN)", () -> x.row(5, MIN), SIZE);
    }

    private static void promise3() {
        ThinAir x = new ThinAir();
        x.row(2, 3);
        Due.tells(x, "lay(2, 0, 7)", x.lay(2, 0, 7), 1, 0);
        Due.tells(x, "lay(2, 0, MIN)", x.lay(2, 0, MIN), 1, 7);
        Due.tells(x, "lay(2, 0, 0)", x.lay(2, 0, 0), 1, MIN);
        Due.tells(x, "lay(2, 2, 5)", x.lay(2, 2, 5), 1, 0);
        Due.bad(x, "lay(-1, 0, 0)", () -> x.lay(-1, 0, 0));
        Due.bad(x, "lay(6, 0, 0)", () -> x.lay(6, 0, 0));
        Due.finds(x, "lay(3, 0, 0)", () -> x.lay(3, 0, 0), NOTHING);
        Due.finds(x, "lay(2, 3, 0)", () -> x.lay(2, 3, 0), BEYOND);
        Due.finds(x, "lay(2, -1, 0)", () -> x.lay(2, -1, 0), BEYOND);
        Due.finds(x, "lay(2, MAX, 0)", () -> x.lay(2, MAX, 0), BEYOND);
    }

    private static void promise4() {
        ThinAir x = new ThinAir();
        long digest = x.digest();
        x.row(1, 4);
        Due.is("tear(1)", x.tear(1), 1);
        Due.is("digest() as before the row", x.digest(), digest);
        Due.is("count(5)", x.count(5), 0);
        Due.finds(x, "tear(1) again", () -> x.tear(1), NOTHING);
        Due.finds(x, "lay(1, 0, 0) torn", () -> x.lay(1, 0, 0), NOTHING);
        Due.bad(x, "tear(-1)", () -> x.tear(-1));
        Due.bad(x, "tear(6)", () -> x.tear(6));
    }

    private static void isRow(ThinAir x, String call, int r, int... cells) {
        for (int i = 0; i < cells.length; i++) {
            x.lay(r, i, cells[i]);
            Due.is(call + ": place " + i + " of row " + r, x.asked(), cells[i]);
        }
    }

    private static void promise5() {
        ThinAir x = new ThinAir();
        Due.fill(x, 0, 1, 2, 3, 4, 5);
        Due.fill(x, 1, 9, 9, 9);
        Due.is("copy(0, 1, 1, 0, 2)", x.copy(0, 1, 1, 0, 2), 1);
        isRow(x, "copy(0, 1, 1, 0, 2)", 1, 2, 3, 9);
        isRow(x, "copy(0, 1, 1, 0, 2)", 0, 1, 2, 3, 4, 5);
        Due.is("copy(0, 0, 0, 1, 4)", x.copy(0, 0, 0, 1, 4), 1);
        isRow(x, "copy(0, 0, 0, 1, 4)", 0, 1, 1, 2, 3, 4);
        Due.is("copy(0, 1, 0, 0, 4)", x.copy(0, 1, 0, 0, 4), 1);
        isRow(x, "copy(0, 1, 0, 0, 4)", 0, 1, 2, 3, 4, 4);
        Due.is("copy(0, 5, 1, 3, 0)", x.copy(0, 5, 1, 3, 0), 1);
        Due.is("copy(0, 0, 1, 0, 3)", x.copy(0, 0, 1, 0, 3), 1);
        isRow(x, "copy(0, 0, 1, 0, 3)", 1, 1, 2, 3);
        Due.bad(x, "copy(-1, 0, 0, 0, 0)", () -> x.copy(-1, 0, 0, 0, 0));
        Due.bad(x, "copy(0, 0, 6, 0, -1)", () -> x.copy(0, 0, 6, 0, -1));
        Due.finds(x, "copy(0, 0, 1, 0, -1)", () -> x.copy(0, 0, 1, 0, -1), SIZE);
        Due.finds(x, "copy(2, 0, 3, 0, -1)", () -> x.copy(2, 0, 3, 0, -1), SIZE);
        Due.finds(x, "copy(2, 0, 0, 0, 1)", () -> x.copy(2, 0, 0, 0, 1), NOTHING);
        Due.finds(x, "copy(0, 9, 2, 0, 1)", () -> x.copy(0, 9, 2, 0, 1), NOTHING);
        Due.finds(x, "copy(0, 0, 1, 0, 4)", () -> x.copy(0, 0, 1, 0, 4), BEYOND);
        Due.finds(x, "copy(0, 3, 1, 0, 3)", () -> x.copy(0, 3, 1, 0, 3), BEYOND);
        Due.finds(x, "copy(0, 0, 1, 1, 3)", () -> x.copy(0, 0, 1, 1, 3), BEYOND);
        Due.finds(x, "copy(0, -1, 1, 0, 1)", () -> x.copy(0, -1, 1, 0, 1), BEYOND);
        Due.finds(x, "copy(0, 0, 1, -1, 1)", () -> x.copy(0, 0, 1, -1, 1), BEYOND);
        Due.finds(x, "copy(0, MAX, 1, 0, MAX)", () -> x.copy(0, MAX, 1, 0, MAX), BEYOND);
        Due.finds(x, "copy(0, 6, 1, 0, 0)", () -> x.copy(0, 6, 1, 0, 0), BEYOND);
    }

    private static void promise6() {
        ThinAir x = new ThinAir();
        Due.fill(x, 0, 1, 2, 2);
        Due.tells(x, "mean(0) of 1 2 2", x.mean(0), 1, 1);
        Due.fill(x, 0, -1, -2, -2);
        Due.tells(x, "mean(0) of -1 -2 -2", x.mean(0), 1, -1);
        Due.fill(x, 0, MAX, MAX, MAX);
        Due.tells(x, "mean(0) of greatest ints", x.mean(0), 1, MAX);
        Due.fill(x, 0, MIN, MIN);
        Due.tells(x, "mean(0) of least ints", x.mean(0), 1, MIN);
        x.row(1, 0);
        Due.finds(x, "mean(1) of none", () -> x.mean(1), NOUGHT);
        Due.finds(x, "mean(2)", () -> x.mean(2), NOTHING);
        Due.bad(x, "mean(6)", () -> x.mean(6));
        Due.bad(x, "mean(-1)", () -> x.mean(-1));
    }

    private static void promise7() {
        ThinAir x = new ThinAir();
        Due.is("text(0, 0)", x.text(0, 0), 0);
        Due.is("text(3, 40)", x.text(3, 40), 40);
        Due.is("put(3, 39, 65)", x.put(3, 39, 65), 1032);
        Due.is("text(3, 40) anew", x.text(3, 40), 40);
        Due.is("put(3, 39, 65) anew", x.put(3, 39, 65), 1032);
        Due.bad(x, "text(-1, 0)", () -> x.text(-1, 0));
        Due.bad(x, "text(4, -1)", () -> x.text(4, -1));
        Due.bad(x, "text(0, 41)", () -> x.text(0, 41));
        Due.finds(x, "text(0, -1)", () -> x.text(0, -1), SIZE);
    }

    private static void promise8() {
        ThinAir x = new ThinAir();
        x.text(1, 2);
        Due.is("put(1, 0, 300)", x.put(1, 0, 300), 1032);
        Due.is("put(1, 0, 200)", x.put(1, 0, 200), 1044);
        Due.is("put(1, 0, -1)", x.put(1, 0, -1), 944);
        Due.is("put(1, 0, 0)", x.put(1, 0, 0), 999);
        Due.is("put(1, 1, 127)", x.put(1, 1, 127), 1032);
        Due.is("asked() unmoved by put()", x.asked(), 0);
        Due.bad(x, "put(4, 0, 0)", () -> x.put(4, 0, 0));
        Due.bad(x, "put(-1, 0, 0)", () -> x.put(-1, 0, 0));
        Due.finds(x, "put(0, 0, 0)", () -> x.put(0, 0, 0), NOTHING);
        Due.finds(x, "put(1, 2, 0)", () -> x.put(1, 2, 0), BEYOND);
        Due.finds(x, "put(1, -1, 0)", () -> x.put(1, -1, 0), BEYOND);
    }

    private static void promise9() {
        ThinAir x = new ThinAir();
        Due.is("later(0)", x.later(0), 0);
        Due.is("later(10)", x.later(10), 10);
        Due.bad(x, "later(-1)", () -> x.later(-1));
        Due.bad(x, "later(9990)", () -> x.later(9990));
        Due.bad(x, "later(MAX)", () -> x.later(MAX));
        Due.is("later(9989)", x.later(9989), 9999);
        Due.is("later(0) on the last day", x.later(0), 9999);
        Due.bad(x, "later(1) on the last day", () -> x.later(1));
        Due.is("count(0)", x.count(0), 9999);
    }

    private static void promise10() {
        ThinAir x = new ThinAir();
        Due.is("place(0, -20, 0, 0)", x.place(0, -20, 0, 0), 0);
        Due.is("place(40, 50, 1, 3)", x.place(40, 50, 1, 3), 1);
        Due.bad(x, "place(-1, 0, 0, 0)", () -> x.place(-1, 0, 0, 0));
        Due.bad(x, "place(41, 0, 0, 0)", () -> x.place(41, 0, 0, 0));
        Due.bad(x, "place(0, -21, 0, 0)", () -> x.place(0, -21, 0, 0));
        Due.bad(x, "place(0, 51, 0, 0)", () -> x.place(0, 51, 0, 0));
        Due.bad(x, "place(0, 0, -1, 0)", () -> x.place(0, 0, -1, 0));
        Due.bad(x, "place(0, 0, 2, 0)", () -> x.place(0, 0, 2, 0));
        Due.bad(x, "place(0, 0, 0, -1)", () -> x.place(0, 0, 0, -1));
        Due.bad(x, "place(0, 0, 0, 4)", () -> x.place(0, 0, 0, 4));
        for (int p = 2; p < 8; p++) {
            Due.is("place " + p, x.place(p, p, 0, 0), p);
        }
        Due.refuses(x, "place(0, 0, 0, 0) of nine", () -> x.place(0, 0, 0, 0), ThinAir.FULL);
        Due.bad(x, "place(41, 0, 0, 0) of nine", () -> x.place(41, 0, 0, 0));
        Due.bad(x, "about(8, 0)", () -> x.about(8, 0));
        Due.bad(x, "mark(0, 8, 1, 0, 0)", () -> x.mark(0, 8, 1, 0, 0));
        Due.is("mark(0, 7, 1, 0, 0)", x.mark(0, 7, 1, 0, 0), 0);
    }

    private static void promise11() {
        ThinAir x = new ThinAir();
        Due.bad(x, "mark() at no place", () -> x.mark(0, 0, 1, 0, 0));
        x.place(0, 20, 0, 0);
        Due.is("mark(0, 0, 1, -60, 0)", x.mark(0, 0, 1, -60, 0), 0);
        Due.is("mark(11, 0, 9999, 60, 3)", x.mark(11, 0, 9999, 60, 3), 1);
        Due.is("mark(0, 0, 1, NONE, 0)", x.mark(0, 0, 1, NONE, 0), 2);
        Due.bad(x, "mark(-1, 0, 1, 0, 0)", () -> x.mark(-1, 0, 1, 0, 0));
        Due.bad(x, "mark(12, 0, 1, 0, 0)", () -> x.mark(12, 0, 1, 0, 0));
        Due.bad(x, "mark(0, -1, 1, 0, 0)", () -> x.mark(0, -1, 1, 0, 0));
        Due.bad(x, "mark(0, 1, 1, 0, 0)", () -> x.mark(0, 1, 1, 0, 0));
        Due.bad(x, "mark(0, 0, 0, 0, 0)", () -> x.mark(0, 0, 0, 0, 0));
        Due.bad(x, "mark(0, 0, 10000, 0, 0)", () -> x.mark(0, 0, 10000, 0, 0));
        Due.bad(x, "mark(0, 0, 1, -61, 0)", () -> x.mark(0, 0, 1, -61, 0));
        Due.bad(x, "mark(0, 0, 1, 61, 0)", () -> x.mark(0, 0, 1, 61, 0));
        Due.bad(x, "mark(0, 0, 1, 0, -1)", () -> x.mark(0, 0, 1, 0, -1));
        Due.bad(x, "mark(0, 0, 1, 0, 4)", () -> x.mark(0, 0, 1, 0, 4));
        for (int m = 3; m < 40; m++) {
            Due.is("mark " + m, x.mark(0, 0, m, 0, 0), m);
        }
        Due.refuses(x, "mark() of 41", () -> x.mark(0, 0, 1, 0, 0), ThinAir.FULL);
        Due.bad(x, "mark() of 41 at no place", () -> x.mark(0, 1, 1, 0, 0));
        Due.bad(x, "told(40, 0)", () -> x.told(40, 0));
        Due.tells(x, "told(39, 4)", x.told(39, 4), 1, 39);
    }

    private static void promise12() {
        ThinAir x = new ThinAir();
        x.place(0, 20, 0, 0);
        x.later(3);
        Due.fill(x, 0, 100, NONE, 1, 200, -60, 3);
        Due.is("marks(4, 0, 0)", x.marks(4, 0, 0), 2);
        int[][] want = {{0, 4, 0, 3, 100, NONE, 1}, {0, 4, 0, 3, 200, -60, 3}};
        for (int m = 0; m < 2; m++) {
            for (int what = 0; what <= 6; what++) {
                Due.tells(x, "told(" + m + ", " + what + ")", x.told(m, what), 1, want[m][what]);
            }
        }
        x.row(1, 0);
        Due.is("marks(4, 0, 1) of none", x.marks(4, 0, 1), 0);
        Due.is("marks(11, 0, 1) of none", x.marks(11, 0, 1), 0);
        Due.bad(x, "marks(12, 0, 0)", () -> x.marks(12, 0, 0));
        Due.bad(x, "marks(-1, 0, 0)", () -> x.marks(-1, 0, 0));
        Due.bad(x, "marks(0, 1, 0)", () -> x.marks(0, 1, 0));
        Due.bad(x, "marks(0, 0, 6)", () -> x.marks(0, 0, 6));
        Due.bad(x, "marks(0, 0, -1)", () -> x.marks(0, 0, -1));
        Due.finds(x, "marks(0, 0, 5)", () -> x.marks(0, 0, 5), NOTHING);
        Due.fill(x, 2, 100, 0, 0, 200);
        Due.finds(x, "marks(0, 0, 2) of four", () -> x.marks(0, 0, 2), SIZE);
        int[][] unlike = {{0, 0, 0}, {10000, 0, 0}, {1, 61, 0}, {1, -61, 0}, {1, 0, 4}, {1, 0, -1}, {NONE, 0, 0}};
        for (int[] triple : unlike) {
            Due.fill(x, 2, 1, 0, 0, triple[0], triple[1], triple[2]);
            Due.finds(x, "marks(0, 0, 2) unlike", () -> x.marks(0, 0, 2), UNLIKE);
        }
        x.row(3, 39);
        for (int i = 0; i < 39; i++) {
            x.lay(3, i, 1);
        }
        Due.is("marks(0, 0, 3) of 13", x.marks(0, 0, 3), 13);
        Due.is("marks(0, 0, 3) of 26", x.marks(0, 0, 3), 13);
        Due.refuses(x, "marks(0, 0, 3): 12 are left", () -> x.marks(0, 0, 3), ThinAir.FULL);
        x.lay(3, 0, 0);
        Due.refuses(x, "marks(0, 0, 3): FULL ahead of UNLIKE", () -> x.marks(0, 0, 3), ThinAir.FULL);
        x.row(3, 38);
        Due.finds(x, "marks(0, 0, 3): SIZE ahead of FULL", () -> x.marks(0, 0, 3), SIZE);
        x.row(3, 36);
        for (int i = 0; i < 36; i++) {
            x.lay(3, i, 1);
        }
        Due.is("marks(0, 0, 3): the last twelve", x.marks(0, 0, 3), 12);
        Due.is("count(2)", x.count(2), 40);
        Due.is("marks(0, 0, 1): none of none", x.marks(0, 0, 1), 0);
    }

    private static ThinAir withMarks(int many) {
        ThinAir x = new ThinAir();
        x.place(0, 20, 0, 0);
        for (int m = 0; m < many; m++) {
            x.mark(m % 12, 0, 1000 + m, 0, 0);
        }
        return x;
    }

    private static void isOfKind(ThinAir x, int m, int kind) {
        Due.tells(x, "told(" + m + ", 0)", x.told(m, 0), 1, kind);
    }

    private static void promise13() {
        ThinAir x = withMarks(4);
        Due.is("help(0, 1, NONE)", x.help(0, 1, NONE), 1);
        Due.is("help(1, 999, 0)", x.help(1, 999, 0), 1);
        Due.is("help(2, 7, 5)", x.help(2, 7, 5), 1);
        isOfKind(x, 0, 1);
        isOfKind(x, 1, 2);
        isOfKind(x, 2, 2);
        isOfKind(x, 3, 0);
        Due.bad(x, "help(4, 1, 0)", () -> x.help(4, 1, 0));
        Due.bad(x, "help(-1, 1, 0)", () -> x.help(-1, 1, 0));
        Due.bad(x, "help(3, 0, 0)", () -> x.help(3, 0, 0));
        Due.bad(x, "help(3, 1000, NONE)", () -> x.help(3, 1000, NONE));
        Due.bad(x, "help(3, 1, 6)", () -> x.help(3, 1, 6));
        Due.bad(x, "help(3, 1, -1)", () -> x.help(3, 1, -1));
        Due.bad(x, "help(0, 1, 6)", () -> x.help(0, 1, 6));
        Due.finds(x, "help(0, 1, NONE) again", () -> x.help(0, 1, NONE), UNLIKE);
        Due.finds(x, "help(1, 1, 1) again", () -> x.help(1, 1, 1), UNLIKE);
    }

    private static void promise14() {
        ThinAir x = withMarks(3);
        x.later(77);
        Due.is("paper(0, 1)", x.paper(0, 1), 1);
        Due.is("paper(1, 999)", x.paper(1, 999), 1);
        isOfKind(x, 0, 3);
        x.later(1);
        Due.is("tells(0, 3): the day of papers", x.tells(0, 3), 77);
        Due.bad(x, "paper(3, 1)", () -> x.paper(3, 1));
        Due.bad(x, "paper(2, 0)", () -> x.paper(2, 0));
        Due.bad(x, "paper(2, 1000)", () -> x.paper(2, 1000));
        Due.finds(x, "paper(0, 1) again", () -> x.paper(0, 1), UNLIKE);
    }

    private static void promise15() {
        ThinAir x = withMarks(3);
        Due.is("cut(0, 1)", x.cut(0, 1), 1);
        Due.is("cut(1, 999)", x.cut(1, 999), 1);
        isOfKind(x, 0, 4);
        Due.is("tells(1, 4)", x.tells(1, 4), 999);
        Due.bad(x, "cut(3, 1)", () -> x.cut(3, 1));
        Due.bad(x, "cut(2, 0)", () -> x.cut(2, 0));
        Due.bad(x, "cut(2, 1000)", () -> x.cut(2, 1000));
        Due.finds(x, "cut(0, 1) again", () -> x.cut(0, 1), UNLIKE);
        Due.finds(x, "help(0, 1, 0) of a SHORT one", () -> x.help(0, 1, 0), UNLIKE);
        Due.finds(x, "paper(0, 1) of a SHORT one", () -> x.paper(0, 1), UNLIKE);
    }

    private static void promise16() {
        ThinAir x = withMarks(6);
        x.help(1, 5, NONE);
        x.help(2, 5, 3);
        x.paper(3, 5);
        x.cut(4, 5);
        x.later(12);
        for (int m = 0; m <= 4; m++) {
            Due.is("strike(" + m + ", " + m + ")", x.strike(m, m), m);
            isOfKind(x, m, 5);
            Due.is("tells(" + m + ", 5)", x.tells(m, 5), 10000 * m + 12);
        }
        Due.bad(x, "strike(6, 0)", () -> x.strike(6, 0));
        Due.bad(x, "strike(5, -1)", () -> x.strike(5, -1));
        Due.bad(x, "strike(5, 10)", () -> x.strike(5, 10));
        Due.finds(x, "strike(0, 0) again", () -> x.strike(0, 0), UNLIKE);
        Due.finds(x, "cut(0, 1) of a STRUCK one", () -> x.cut(0, 1), UNLIKE);
        Due.is("strike(5, 9)", x.strike(5, 9), 0);
    }

    private static void promise17() {
        ThinAir x = new ThinAir();
        x.place(0, 20, 0, 0);
        x.place(1, 21, 1, 1);
        x.later(400);
        x.mark(7, 1, 4321, -13, 2);
        x.cut(0, 3);
        int[] want = {4, 7, 1, 400, 4321, -13, 2};
        x.later(1);
        for (int what = 0; what <= 6; what++) {
            Due.tells(x, "told(0, " + what + ")", x.told(0, what), 1, want[what]);
        }
        Due.bad(x, "told(0, -1)", () -> x.told(0, -1));
        Due.bad(x, "told(0, 7)", () -> x.told(0, 7));
        Due.bad(x, "told(1, 0)", () -> x.told(1, 0));
        Due.bad(x, "told(-1, 0)", () -> x.told(-1, 0));
    }

    private static void promise18() {
        ThinAir x = withMarks(6);
        x.later(9);
        x.help(1, 11, NONE);
        x.help(2, 12, 4);
        x.paper(3, 13);
        x.cut(4, 14);
        x.strike(5, 6);
        int[][] want = {
            {0, 0, 0, 0, 0}, {11, 0, 0, 0, 0}, {12, 4, 0, 0, 0},
            {13, 0, 9, 0, 0}, {0, 0, 0, 14, 0}, {0, 0, 0, 0, 60009}};
        for (int m = 0; m < 6; m++) {
            for (int kind = 1; kind <= 5; kind++) {
                int mark = m;
                int of = kind;
                String call = "tells(" + m + ", " + kind + ")";
                if (want[m][kind - 1] == 0) {
                    Due.finds(x, call, () -> x.tells(mark, of), UNLIKE);
                } else {
                    Due.is(call, x.tells(m, kind), want[m][kind - 1]);
                }
            }
        }
        Due.bad(x, "tells(1, 0)", () -> x.tells(1, 0));
        Due.bad(x, "tells(1, 6)", () -> x.tells(1, 6));
        Due.bad(x, "tells(6, 1)", () -> x.tells(6, 1));
        x.help(0, 1, 0);
        Due.is("tells(0, 2): hand 0", x.tells(0, 2), 0);
        x.strike(2, 0);
        Due.finds(x, "tells(2, 1) of one that was HELPED", () -> x.tells(2, 1), UNLIKE);
        Due.is("asked() unmoved by tells()", x.asked(), 0);
    }

    private static void promise19() {
        ThinAir x = new ThinAir();
        x.place(40, -20, 1, 3);
        x.place(0, 50, 0, 0);
        int[][] want = {{40, -20, 1, 3}, {0, 50, 0, 0}};
        for (int p = 0; p < 2; p++) {
            for (int what = 0; what <= 3; what++) {
                Due.tells(x, "about(" + p + ", " + what + ")", x.about(p, what), 1, want[p][what]);
            }
        }
        Due.bad(x, "about(2, 0)", () -> x.about(2, 0));
        Due.bad(x, "about(-1, 0)", () -> x.about(-1, 0));
        Due.bad(x, "about(0, 4)", () -> x.about(0, 4));
        Due.bad(x, "about(0, -1)", () -> x.about(0, -1));
    }
}
