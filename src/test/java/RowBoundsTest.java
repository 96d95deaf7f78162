/** Promises 1 to 9 at their boundaries: a new object, rows, texts, days. */
public final class RowBoundsTest {
    private static final int MIN = Integer.MIN_VALUE;
    private static final int MAX = Integer.MAX_VALUE;
    private static final int NOTHING = 1, BEYOND = 2, NOUGHT = 4, SIZE = 5;

    public static void main(String[] args) {
        newObject();
        row();
        lay();
        tear();
        copy();
        copyRefused();
        mean();
        text();
        put();
        later();
        Sentence.end(1, 9);
    }

    /** Rows 0 to 5, each r of size 8 r. */
    private static ThinAir withRows() {
        ThinAir x = new ThinAir();
        for (int r = 0; r < 6; r++) {
            x.row(r, 8 * r);
        }
        return x;
    }

    private static ThinAir withTexts() {
        ThinAir x = new ThinAir();
        for (int t = 0; t < 4; t++) {
            x.text(t, 10 * t + 10);
        }
        return x;
    }

    private static void newObject() {
        Sentence.holds(1, "No ROWS, TEXTS, PLACES, MARKS, LAWS; TODAY 0.", () -> {
            ThinAir x = new ThinAir();
            for (int r = 0; r < 6; r++) {
                int row = r;
                Due.finds(x, "mean(" + r + ")", () -> x.mean(row), NOTHING);
            }
            for (int t = 0; t < 4; t++) {
                int text = t;
                Due.finds(x, "fault(" + t + ")", () -> x.fault(text, true), NOTHING);
            }
            Due.bad(x, "about(0, 0)", () -> x.about(0, 0));
            Due.bad(x, "told(0, 0)", () -> x.told(0, 0));
            Due.finds(x, "number(0, 0)", () -> x.number(0, 0), NOTHING);
            Due.finds(x, "number(1, 0)", () -> x.number(1, 0), NOTHING);
            Due.is("later(0)", x.later(0), 0);
        });
    }

    private static void row() {
        Sentence.holds(2, "A ROW is there with n ints 0: n.", () -> {
            for (int n : new int[] {0, 1, 39, 40}) {
                ThinAir x = new ThinAir();
                Due.is("row(2, " + n + ")", x.row(2, n), n);
                for (int i = 0; i < n; i++) {
                    Due.tells(x, "lay(2, " + i + ", 7)", x.lay(2, i, 7), 1, 0);
                }
                Due.finds(x, "lay(2, " + n + ", 7)", () -> x.lay(2, n, 7), BEYOND);
                Due.is("row(2, " + n + ") anew", x.row(2, n), n);
                for (int i = 0; i < n; i++) {
                    Due.tells(x, "lay(2, " + i + ", 7) anew", x.lay(2, i, 7), 1, 0);
                }
            }
        });
        Sentence.holds(2, "BAD: also n above 40", () -> {
            Due.within("row(r, 0)", ThinAir::new, (x, r) -> x.row(r, 0), 0, 5);
            ThinAir x = withRows();
            Due.is("row(0, 40)", x.row(0, 40), 40);
            Due.bad(x, "row(0, 41)", () -> x.row(0, 41));
            Due.bad(x, "row(0, MAX)", () -> x.row(0, MAX));
            Due.bad(x, "row(6, -1), ahead of SIZE", () -> x.row(6, -1));
            Due.bad(x, "row(-1, -1), ahead of SIZE", () -> x.row(-1, -1));
        });
        Sentence.holds(2, "SIZE: below 0", () -> {
            ThinAir x = withRows();
            Due.is("row(5, 0)", x.row(5, 0), 0);
            Due.finds(x, "row(5, -1)", () -> x.row(5, -1), SIZE);
            Due.finds(x, "row(4, -1) keeps what is there", () -> x.row(4, -1), SIZE);
            Due.finds(x, "row(0, MIN)", () -> x.row(0, MIN), SIZE);
        });
    }

    private static void lay() {
        Sentence.holds(3, "Place i of a ROW is v: what it was, told by asked(): 1.", () -> {
            ThinAir x = new ThinAir();
            x.row(0, 2);
            int before = 0;
            for (int v : new int[] {MIN, MAX, -1, 0, ThinAir.NONE}) {
                Due.tells(x, "lay(0, 1, " + v + ")", x.lay(0, 1, v), 1, before);
                before = v;
            }
            Due.tells(x, "lay(0, 0, 1): the one ahead is as it was", x.lay(0, 0, 1), 1, 0);
        });
        Sentence.holds(3, "BAD; ", () -> {
            Due.within("lay(r, 0, 1)", () -> {
                ThinAir x = withRows();
                x.row(0, 1);
                return x;
            }, (x, r) -> x.lay(r, 0, 1), 0, 5);
            ThinAir bare = new ThinAir();
            Due.bad(bare, "lay(6, -1, 0), ahead of NOTHING", () -> bare.lay(6, -1, 0));
        });
        Sentence.holds(3, "NOTHING; ", () -> {
            ThinAir x = new ThinAir();
            Due.finds(x, "lay(5, 0, 1)", () -> x.lay(5, 0, 1), NOTHING);
            Due.finds(x, "lay(5, -1, 1), ahead of BEYOND", () -> x.lay(5, -1, 1), NOTHING);
            x.row(5, 1);
            Due.is("lay(5, 0, 1)", x.lay(5, 0, 1), 1);
            x.tear(5);
            Due.finds(x, "lay(5, 0, 1) torn", () -> x.lay(5, 0, 1), NOTHING);
        });
        Sentence.holds(3, "BEYOND.", () -> {
            ThinAir x = withRows();
            for (int r = 0; r < 6; r++) {
                int row = r;
                int size = 8 * r;
                for (int i : new int[] {MIN, -1, size, size + 1, 40, MAX}) {
                    Due.finds(x, "lay(" + r + ", " + i + ", 1)", () -> x.lay(row, i, 1), BEYOND);
                }
                if (size > 0) {
                    Due.is("lay(" + r + ", 0, 1)", x.lay(r, 0, 1), 1);
                    Due.is("lay(" + r + ", " + (size - 1) + ", 1)", x.lay(r, size - 1, 1), 1);
                }
            }
        });
    }

    private static void tear() {
        Sentence.holds(4, "A ROW is missing: 1.", () -> {
            for (int r = 0; r < 6; r++) {
                int row = r;
                ThinAir x = withRows();
                Due.is("tear(" + r + ")", x.tear(r), 1);
                Due.is("count(5)", x.count(5), 5);
                Due.finds(x, "mean(" + r + ")", () -> x.mean(row), NOTHING);
                Due.is("row(" + r + ", 0) once more", x.row(r, 0), 0);
                Due.is("count(5)", x.count(5), 6);
            }
        });
        Sentence.holds(4, "BAD; ", () -> Due.within("tear(r)", RowBoundsTest::withRows, (x, r) -> x.tear(r), 0, 5));
        Sentence.holds(4, "NOTHING.", () -> {
            ThinAir x = new ThinAir();
            Due.finds(x, "tear(0) at first", () -> x.tear(0), NOTHING);
            x.row(0, 0);
            Due.is("tear(0) of no ints", x.tear(0), 1);
            Due.finds(x, "tear(0) twice", () -> x.tear(0), NOTHING);
        });
    }

    private static void isRow(ThinAir x, String call, int r, int... cells) {
        for (int i = 0; i < cells.length; i++) {
            x.lay(r, i, cells[i]);
            Due.is(call + ": place " + i + " of row " + r, x.asked(), cells[i]);
        }
    }

    private static void copy() {
        Sentence.holds(5, "n places of a ROW, from one on, come to those of another one (perhaps itself) from one"
                + " on, as if taken ahead: 1.", () -> {
            ThinAir x = new ThinAir();
            Due.fill(x, 0, 1, 2, 3, 4);
            Due.fill(x, 1, 9, 9, 9, 9);
            Due.is("copy(0, 0, 1, 0, 4): all", x.copy(0, 0, 1, 0, 4), 1);
            isRow(x, "all", 1, 1, 2, 3, 4);
            Due.is("copy(0, 3, 1, 0, 1): the last", x.copy(0, 3, 1, 0, 1), 1);
            isRow(x, "the last", 1, 4, 2, 3, 4);
            Due.is("copy(0, 0, 1, 3, 1): onto the last", x.copy(0, 0, 1, 3, 1), 1);
            isRow(x, "onto the last", 1, 4, 2, 3, 1);
            Due.is("copy(0, 0, 0, 1, 3): itself, on", x.copy(0, 0, 0, 1, 3), 1);
            isRow(x, "itself, on", 0, 1, 1, 2, 3);
            Due.is("copy(0, 1, 0, 0, 3): itself, back", x.copy(0, 1, 0, 0, 3), 1);
            isRow(x, "itself, back", 0, 1, 2, 3, 3);
            Due.is("copy(0, 0, 0, 0, 4): itself, in place", x.copy(0, 0, 0, 0, 4), 1);
            isRow(x, "itself, in place", 0, 1, 2, 3, 3);
        });
        Sentence.holds(5, "n places", () -> {
            ThinAir x = withRows();
            long digest = x.digest();
            Due.is("copy(1, 0, 2, 0, 0): none", x.copy(1, 0, 2, 0, 0), 1);
            Due.is("copy(1, 8, 2, 16, 0): none, behind the last", x.copy(1, 8, 2, 16, 0), 1);
            Due.is("copy(0, 0, 0, 0, 0): none of none", x.copy(0, 0, 0, 0, 0), 1);
            Due.is("digest()", x.digest(), digest);
            Due.is("copy(5, 0, 5, 0, 40): forty", x.copy(5, 0, 5, 0, 40), 1);
        });
    }

    private static void copyRefused() {
        Sentence.holds(5, "BAD; ", () -> {
            Due.within("copy(r, 0, 1, 0, 0)", RowBoundsTest::withRows, (x, r) -> x.copy(r, 0, 1, 0, 0), 0, 5);
            Due.within("copy(1, 0, to, 0, 0)", RowBoundsTest::withRows, (x, to) -> x.copy(1, 0, to, 0, 0), 0, 5);
            ThinAir x = new ThinAir();
            Due.bad(x, "copy(6, 0, 0, 0, -1), ahead of SIZE", () -> x.copy(6, 0, 0, 0, -1));
            Due.bad(x, "copy(0, 0, -1, 0, -1), ahead of SIZE", () -> x.copy(0, 0, -1, 0, -1));
            Due.bad(x, "copy(0, 0, 6, 0, 1), ahead of NOTHING", () -> x.copy(0, 0, 6, 0, 1));
        });
        Sentence.holds(5, "SIZE: n below 0; ", () -> {
            ThinAir x = withRows();
            Due.is("copy(1, 0, 2, 0, 0)", x.copy(1, 0, 2, 0, 0), 1);
            Due.finds(x, "copy(1, 0, 2, 0, -1)", () -> x.copy(1, 0, 2, 0, -1), SIZE);
            Due.finds(x, "copy(1, 5, 2, 5, MIN)", () -> x.copy(1, 5, 2, 5, MIN), SIZE);
            Due.finds(x, "copy(1, -1, 2, -1, -1), ahead of BEYOND", () -> x.copy(1, -1, 2, -1, -1), SIZE);
            ThinAir bare = new ThinAir();
            Due.finds(bare, "copy(0, 0, 1, 0, -1), ahead of NOTHING", () -> bare.copy(0, 0, 1, 0, -1), SIZE);
        });
        Sentence.holds(5, "NOTHING: either; ", () -> {
            ThinAir x = withRows();
            x.tear(3);
            Due.finds(x, "copy(3, 0, 4, 0, 1)", () -> x.copy(3, 0, 4, 0, 1), NOTHING);
            Due.finds(x, "copy(4, 0, 3, 0, 1)", () -> x.copy(4, 0, 3, 0, 1), NOTHING);
            Due.finds(x, "copy(3, 0, 3, 0, 0)", () -> x.copy(3, 0, 3, 0, 0), NOTHING);
            Due.finds(x, "copy(4, 99, 3, 0, 1), ahead of BEYOND", () -> x.copy(4, 99, 3, 0, 1), NOTHING);
            Due.finds(x, "copy(3, 0, 4, 99, 1), ahead of BEYOND", () -> x.copy(3, 0, 4, 99, 1), NOTHING);
            Due.is("copy(4, 0, 5, 0, 1)", x.copy(4, 0, 5, 0, 1), 1);
        });
        Sentence.holds(5, "BEYOND: not so many there.", () -> {
            ThinAir x = withRows();
            int[][] beyond = {{0, 0, 9}, {1, 0, 8}, {8, 0, 1}, {9, 0, 0}, {-1, 0, 1}, {-1, 0, 0}, {0, 9, 8}, {0, 16, 1},
                {0, 17, 0}, {0, -1, 1}, {0, -1, 0}, {MAX, 0, 1}, {0, MAX, 1}, {MAX, MAX, MAX}, {1, 1, MAX},
                {0, 0, MAX}, {MIN, 0, 8}, {0, MIN, 8}, {MAX, 0, 0}, {MIN, MIN, MAX}};
            for (int[] a : beyond) {
                Due.finds(x, "copy(1, " + a[0] + ", 2, " + a[1] + ", " + a[2] + ")",
                    () -> x.copy(1, a[0], 2, a[1], a[2]), BEYOND);
            }
            Due.finds(x, "copy(2, 0, 1, 0, 9): not so many in the other one", () -> x.copy(2, 0, 1, 0, 9), BEYOND);
            for (int[] a : new int[][] {{0, 8, 8}, {0, 0, 8}, {7, 15, 1}, {1, 9, 7}}) {
                Due.is("copy(1, " + a[0] + ", 2, " + a[1] + ", " + a[2] + ")", x.copy(1, a[0], 2, a[1], a[2]), 1);
            }
        });
    }

    private static void isMean(int want, int... cells) {
        ThinAir x = new ThinAir();
        Due.fill(x, 3, cells);
        Due.tells(x, "mean(3) of " + java.util.Arrays.toString(cells), x.mean(3), 1, want);
    }

    private static void mean() {
        Sentence.holds(6, "The mean of a ROW's ints, cut, told by asked(): 1.", () -> {
            isMean(5, 5);
            isMean(0, 1, 0);
            isMean(1, 1, 1);
            isMean(1, 2, 1);
            isMean(0, -1, 0);
            isMean(-1, -1, -1);
            isMean(-1, -2, -1);
            isMean(0, MIN, MAX);
            int[] greatest = new int[40];
            java.util.Arrays.fill(greatest, MAX);
            isMean(MAX, greatest);
            greatest[0]--;
            isMean(MAX - 1, greatest);
            java.util.Arrays.fill(greatest, MIN);
            isMean(MIN, greatest);
            greatest[39]++;
            isMean(MIN + 1, greatest);
        });
        Sentence.holds(6, "BAD; ", () -> Due.within("mean(r)", () -> {
            ThinAir x = withRows();
            x.row(0, 1);
            return x;
        }, (x, r) -> x.mean(r), 0, 5));
        Sentence.holds(6, "NOTHING; ", () -> {
            ThinAir x = withRows();
            x.tear(1);
            Due.finds(x, "mean(1)", () -> x.mean(1), NOTHING);
        });
        Sentence.holds(6, "NOUGHT.", () -> {
            ThinAir x = new ThinAir();
            x.row(1, 0);
            Due.finds(x, "mean(1) of none", () -> x.mean(1), NOUGHT);
            x.row(1, 1);
            Due.tells(x, "mean(1) of one", x.mean(1), 1, 0);
        });
    }

    private static void text() {
        Sentence.holds(7, "A TEXT is there with n blanks: n.", () -> {
            for (int n : new int[] {0, 1, 39, 40}) {
                ThinAir x = new ThinAir();
                for (int again = 0; again < 2; again++) {
                    Due.is("text(2, " + n + ")", x.text(2, n), n);
                    for (int i = 0; i < n; i++) {
                        Due.is("put(2, " + i + ", 65)", x.put(2, i, 65), 1032);
                    }
                    Due.finds(x, "put(2, " + n + ", 65)", () -> x.put(2, n, 65), BEYOND);
                }
            }
        });
        Sentence.holds(7, "BAD: also n above 40", () -> {
            Due.within("text(t, 0)", ThinAir::new, (x, t) -> x.text(t, 0), 0, 3);
            ThinAir x = withTexts();
            Due.is("text(0, 40)", x.text(0, 40), 40);
            Due.bad(x, "text(0, 41)", () -> x.text(0, 41));
            Due.bad(x, "text(0, MAX)", () -> x.text(0, MAX));
            Due.bad(x, "text(4, -1), ahead of SIZE", () -> x.text(4, -1));
            Due.bad(x, "text(-1, -1), ahead of SIZE", () -> x.text(-1, -1));
        });
        Sentence.holds(7, "SIZE: below 0", () -> {
            ThinAir x = withTexts();
            Due.is("text(3, 0)", x.text(3, 0), 0);
            Due.finds(x, "text(3, -1)", () -> x.text(3, -1), SIZE);
            Due.finds(x, "text(2, MIN)", () -> x.text(2, MIN), SIZE);
        });
    }

    private static void put() {
        Sentence.holds(8, "Byte i of a TEXT is v, cut to a byte: what it was, and 1000 more.", () -> {
            int[][] cut = {{0, 0}, {127, 127}, {128, -128}, {255, -1}, {256, 0}, {257, 1}, {383, 127}, {384, -128},
                {-1, -1}, {-128, -128}, {-129, 127}, {-256, 0}, {MAX, -1}, {MIN, 0}};
            ThinAir x = withTexts();
            for (int[] a : cut) {
                x.put(1, 19, a[0]);
                Due.is("put(1, 19, 32) behind " + a[0], x.put(1, 19, 32), 1000 + a[1]);
            }
            Due.is("put(1, 18, 0): the one ahead is a blank", x.put(1, 18, 0), 1032);
        });
        Sentence.holds(8, "BAD; ", () -> {
            Due.within("put(t, 0, 65)", RowBoundsTest::withTexts, (x, t) -> x.put(t, 0, 65), 0, 3);
            ThinAir x = new ThinAir();
            Due.bad(x, "put(4, -1, 0), ahead of NOTHING", () -> x.put(4, -1, 0));
        });
        Sentence.holds(8, "NOTHING; ", () -> {
            ThinAir x = new ThinAir();
            Due.finds(x, "put(3, 0, 65)", () -> x.put(3, 0, 65), NOTHING);
            Due.finds(x, "put(3, -1, 65), ahead of BEYOND", () -> x.put(3, -1, 65), NOTHING);
            x.text(3, 1);
            Due.is("put(3, 0, 65)", x.put(3, 0, 65), 1032);
        });
        Sentence.holds(8, "BEYOND.", () -> {
            ThinAir x = withTexts();
            x.text(0, 0);
            for (int i : new int[] {MIN, -1, 0, 1, MAX}) {
                Due.finds(x, "put(0, " + i + ", 65) of no bytes", () -> x.put(0, i, 65), BEYOND);
            }
            for (int i : new int[] {MIN, -1, 20, 21, 40, MAX}) {
                Due.finds(x, "put(1, " + i + ", 65) of 20", () -> x.put(1, i, 65), BEYOND);
            }
            Due.finds(x, "put(3, 40, 65) of 40", () -> x.put(3, 40, 65), BEYOND);
            Due.is("put(1, 0, 65)", x.put(1, 0, 65), 1032);
            Due.is("put(1, 19, 65)", x.put(1, 19, 65), 1032);
            Due.is("put(3, 39, 65)", x.put(3, 39, 65), 1032);
        });
    }

    private static void later() {
        Sentence.holds(9, "TODAY is n days later: it.", () -> {
            ThinAir x = new ThinAir();
            Due.is("later(0)", x.later(0), 0);
            Due.is("later(1)", x.later(1), 1);
            Due.is("later(9997)", x.later(9997), 9998);
            Due.is("later(1)", x.later(1), 9999);
            Due.is("later(0)", x.later(0), 9999);
            Due.is("later(9999) at once", new ThinAir().later(9999), 9999);
        });
        Sentence.holds(9, "BAD: below 0, or beyond 9999.", () -> {
            Due.within("later(n) of day 0", ThinAir::new, (x, n) -> x.later(n), 0, 9999);
            Due.within("later(n) of day 9000", () -> {
                ThinAir x = new ThinAir();
                x.later(9000);
                return x;
            }, (x, n) -> x.later(n), 0, 999);
            Due.within("later(n) of the last day", () -> {
                ThinAir x = new ThinAir();
                x.later(9999);
                return x;
            }, (x, n) -> x.later(n), 0, 0);
        });
    }
}
