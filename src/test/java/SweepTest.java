import java.util.ArrayList;
import java.util.Arrays;
import java.util.List;

/** Every call with all numbers at and beside their bounds, in each combination, in a few states, against the Model. */
public final class SweepTest {
    private static final int NONE = ThinAir.NONE;
    private static final int MIN = Integer.MIN_VALUE;
    private static final int MAX = Integer.MAX_VALUE;

    private static final int[] ROW = {MIN, -1, 0, 1, 2, 5, 6, MAX};
    private static final int[] TEXT = {MIN, -1, 0, 1, 2, 3, 4, MAX};
    private static final int[] PART = {MIN, -1, 0, 1, 3, 4, 39, 40, MAX};
    private static final int[] SIZE = {MIN, -1, 0, 1, 3, 40, 41, MAX};
    private static final int[] ANY = {MIN, -129, -1, 0, 300, MAX};
    private static final int[] PERSON = {-1, 0, 11, 12};
    private static final int[] PLACE = {-1, 0, 1, 7, 8, MAX};
    private static final int[] MARK = {MIN, -1, 0, 1, 2, 3, 4, 5, 38, 39, 40, MAX};
    private static final int[] MUCH = {MIN, 0, 1, 999, 1000};
    private static final int[] LAWS = {MIN, -1, 0, 1, 2, MAX};
    private static final int[] VALUE = {0, 1, 9999, 10000};
    private static final int[] WIND = {NONE - 1, NONE, NONE + 1, -61, -60, 60, 61};
    private static final int[] UP_TO_1 = {-1, 0, 1, 2};
    private static final int[] UP_TO_3 = {-1, 0, 3, 4};
    private static final int[] UP_TO_9 = {MIN, -1, 0, 1, 2, 3, 4, 5, 6, 7, 8, 9, 10, MAX};

    private final List<String> names = new ArrayList<>();
    private final List<int[]> numbers = new ArrayList<>();
    private ThinAir x;
    private Model model;
    private long made;
    private static long calls = 0;

    public static void main(String[] args) {
        for (int state = 0; state < 5; state++) {
            SweepTest sweep = new SweepTest(state);
            for (String name : Calls.NAMES) {
                sweep.sweeps(name);
            }
        }
        System.out.println(calls + " calls at and beside all bounds are as the model's");
    }

    private SweepTest(int state) {
        if (state >= 1) {
            few();
        }
        if (state == 2) {
            write(0, "W9,4H3,9T2F15S1:20");
            add("laws", 0, 0);
            write(0, "vk");
        }
        if (state >= 3) {
            all();
        }
        if (state == 4) {
            write(3, "w20v");
            write(2, "T1");
            add("laws", 1, 2);
            add("later", 9000);
        }
        make();
    }

    private void add(String name, int... a) {
        names.add(name);
        numbers.add(a);
    }

    private void write(int t, String signs) {
        add("text", t, signs.length());
        for (int i = 0; i < signs.length(); i++) {
            add("put", t, i, signs.charAt(i));
        }
    }

    /** Two places, a mark of each KIND, rows of 0, 3 and 4, TEXTS without items and at FAULT. */
    private void few() {
        add("place", 10, 20, 0, 0);
        add("place", 11, 20, 1, 3);
        for (int m = 0; m < 6; m++) {
            add("mark", m % 3, m % 2, 900 + m, m == 4 ? NONE : m, m % 4);
        }
        add("help", 1, 5, NONE);
        add("help", 2, 6, 3);
        add("paper", 3, 7);
        add("cut", 4, 8);
        add("strike", 5, 9);
        add("row", 0, 0);
        add("row", 1, 3);
        for (int i = 0; i < 3; i++) {
            add("lay", 1, i, i + 1);
        }
        add("row", 2, 4);
        add("text", 0, 0);
        write(1, "vx");
        add("fall", 4, 3);
        add("told", 0, 4);
    }

    /** Eight places, forty marks, LAWS 0. */
    private void all() {
        for (int p = 2; p < 8; p++) {
            add("place", p, 20 + p, p % 2, p % 4);
        }
        for (int m = 6; m < 40; m++) {
            add("mark", m % 12, m % 8, 1000 + m * 7 % 10, m % 9 == 0 ? NONE : m % 5, m % 4);
        }
        write(2, "W5,3H1,9S2:-9");
        add("laws", 0, 2);
        add("row", 5, 40);
    }

    private void make() {
        x = new ThinAir();
        model = new Model();
        for (int i = 0; i < names.size(); i++) {
            compare(names.get(i), numbers.get(i));
        }
        made = x.digest();
    }

    private static int[][] bounds(String name) {
        switch (name) {
            case "row": return new int[][] {ROW, SIZE};
            case "lay": return new int[][] {ROW, PART, ANY};
            case "tear": case "mean": return new int[][] {ROW};
            case "copy": return new int[][] {ROW, PART, ROW, PART, SIZE};
            case "text": return new int[][] {TEXT, SIZE};
            case "put": return new int[][] {TEXT, PART, ANY};
            case "later": return new int[][] {{MIN, -1, 0, 1, 999, 1000, 9999, 10000, MAX}};
            case "place": return new int[][] {{-1, 0, 40, 41}, {-21, -20, 50, 51}, UP_TO_1, UP_TO_3};
            case "mark": return new int[][] {PERSON, PLACE, VALUE, WIND, UP_TO_3};
            case "marks": return new int[][] {PERSON, PLACE, ROW};
            case "help": return new int[][] {MARK, MUCH, {NONE - 1, NONE, NONE + 1, -1, 0, 5, 6}};
            case "paper": case "cut": return new int[][] {MARK, MUCH};
            case "strike": return new int[][] {MARK, UP_TO_9};
            case "told": case "tells": return new int[][] {MARK, UP_TO_9};
            case "about": return new int[][] {PLACE, UP_TO_9};
            case "fault": return new int[][] {TEXT, {0, 1}};
            case "laws": return new int[][] {LAWS, TEXT};
            case "number": return new int[][] {LAWS, UP_TO_9};
            case "gives": case "home": case "span": return new int[][] {LAWS, MARK};
            case "sure": return new int[][] {LAWS, MARK, MARK};
            case "turns": return new int[][] {LAWS, UP_TO_1};
            case "pairs": case "learn": case "count": case "findings": return new int[][] {UP_TO_9};
            case "just": return new int[][] {{MIN, NONE, -60, -59, -58, 0, 1, 2, 3, 4, 5, 6, 7, 58, 59, 60, MAX}};
            case "list": case "far": return new int[][] {TEXT};
            case "listed": return new int[][] {TEXT, {MIN, -1, 0, 1, 2, 3, 11, 12, MAX}};
            case "gains": return new int[][] {TEXT, TEXT};
            case "fall": return new int[][] {{MIN, -1, 0, 1, 9999, 10000, MAX}, {MIN, 0, 1, 9999, 10000, MAX}};
            case "crowd": return new int[][] {TEXT, UP_TO_3, {-1, 0, 1, 27, 28}, {0, 1, 2, 6, 7, 20, 39, 40, 41}};
            default: return new int[0][];
        }
    }

    private void sweeps(String name) {
        int[][] bounds = bounds(name);
        int[] at = new int[bounds.length];
        int place;
        do {
            int[] a = new int[bounds.length];
            for (int i = 0; i < a.length; i++) {
                a[i] = bounds[i][at[i]];
            }
            compare(name, a);
            calls++;
            if (x.digest() != made) {
                make();
            }
            place = a.length - 1;
            while (place >= 0 && ++at[place] == bounds[place].length) {
                at[place--] = 0;
            }
        } while (place >= 0);
    }

    private void compare(String name, int[] a) {
        long got = Calls.answer(x, name, a);
        String unlike = Calls.unlike(x, model, got, model.call(name, a));
        if (unlike != null) {
            System.out.println(name + Arrays.toString(a) + ": " + unlike);
            System.exit(1);
        }
    }
}
