import java.util.Arrays;
import java.util.function.IntSupplier;
import java.util.function.Supplier;
import java.util.function.ToIntBiFunction;

/** What the tests share: checks that are counted, refusals that change nothing, TEXTS written sign by sign. */
final class Due {
    private static int right = 0;
    private static int wrong = 0;
    private static String where = "";

    private Due() { }

    /** What is printed ahead of each wrong answer from now on. */
    static void in(String place) {
        where = place;
    }

    static int checks() {
        return right + wrong;
    }

    static void is(String call, long got, long want) {
        if (got == want) {
            right++;
        } else {
            wrong++;
            System.out.println(where + call + " answered " + got + ", due is " + want);
        }
    }

    static void holds(String what, boolean fits) {
        is(what, fits ? 1 : 0, 1);
    }

    /** A refusal by a FINDING: which one, counted once more, and nothing else changed. */
    static void finds(ThinAir x, String call, IntSupplier run, int finding) {
        Seen before = new Seen(x);
        int[] times = allTimes(x);
        is(call, run.getAsInt(), ThinAir.FINDING);
        is(call + ": finding()", x.finding(), finding);
        times[finding - 1]++;
        holds(call + ": findings() are " + Arrays.toString(allTimes(x)) + ", due " + Arrays.toString(times),
            Arrays.equals(allTimes(x), times));
        before.isStill(x, call);
    }

    /** A refusal by another answer, which leaves all as it was, FINDINGS too. */
    static void refuses(ThinAir x, String call, IntSupplier run, int answer) {
        Seen before = new Seen(x);
        int finding = x.finding();
        int[] times = allTimes(x);
        is(call, run.getAsInt(), answer);
        is(call + ": finding()", x.finding(), finding);
        holds(call + ": findings() are " + Arrays.toString(allTimes(x)) + ", due " + Arrays.toString(times),
            Arrays.equals(allTimes(x), times));
        before.isStill(x, call);
    }

    static void bad(ThinAir x, String call, IntSupplier run) {
        refuses(x, call, run, ThinAir.BAD);
    }

    static void full(ThinAir x, String call, IntSupplier run) {
        refuses(x, call, run, ThinAir.FULL);
    }

    static void state(ThinAir x, String call, IntSupplier run) {
        refuses(x, call, run, ThinAir.STATE);
    }

    /** A number of a call that is BAD outside of its bounds, and taken at both of them. */
    static void within(String call, Supplier<ThinAir> made, ToIntBiFunction<ThinAir, Integer> run,
            int least, int greatest) {
        for (int v : new int[] {least, greatest}) {
            int answer = run.applyAsInt(made.get(), v);
            holds(call + " of " + v + " answered " + answer, answer >= 0 || answer == ThinAir.NONE);
        }
        for (int v : new int[] {Integer.MIN_VALUE, least - 1, greatest + 1, Integer.MAX_VALUE}) {
            ThinAir x = made.get();
            bad(x, call + " of " + v, () -> run.applyAsInt(x, v));
        }
    }

    static void tells(ThinAir x, String call, long got, long want, long asked) {
        is(call, got, want);
        is(call + ": asked()", x.asked(), asked);
    }

    static void fraction(ThinAir x, String call, long got, long want, long upper, long lower) {
        is(call, got, want);
        is(call + ": upper()", x.upper(), upper);
        is(call + ": lower()", x.lower(), lower);
    }

    static void write(ThinAir x, int t, String signs) {
        x.text(t, signs.length());
        for (int i = 0; i < signs.length(); i++) {
            x.put(t, i, signs.charAt(i));
        }
    }

    static void fill(ThinAir x, int r, int... cells) {
        x.row(r, cells.length);
        for (int i = 0; i < cells.length; i++) {
            x.lay(r, i, cells[i]);
        }
    }

    /** A place, marks of PERSONS 0, 1, .. with these VALUES, and TEXT 0 that lets all. */
    static ThinAir withValues(int... values) {
        ThinAir x = new ThinAir();
        x.place(0, 20, 0, 0);
        x.text(0, 0);
        for (int person = 0; person < values.length; person++) {
            x.mark(person, 0, values[person], 0, 0);
        }
        return x;
    }

    static int allFindings(ThinAir x) {
        return Arrays.stream(allTimes(x)).sum();
    }

    static void end() {
        System.out.println(right + " checks right, " + wrong + " wrong");
        if (wrong != 0) {
            System.exit(1);
        }
    }

    private static int[] allTimes(ThinAir x) {
        int[] times = new int[5];
        for (int f = 1; f <= 5; f++) {
            times[f - 1] = x.findings(f);
        }
        return times;
    }

    /** All that a refused call leaves as it was. */
    private static final class Seen {
        private final long digest;
        private final long upper;
        private final long lower;
        private final int asked;

        Seen(ThinAir x) {
            digest = x.digest();
            upper = x.upper();
            lower = x.lower();
            asked = x.asked();
        }

        void isStill(ThinAir x, String call) {
            is(call + ": digest()", x.digest(), digest);
            is(call + ": upper()", x.upper(), upper);
            is(call + ": lower()", x.lower(), lower);
            is(call + ": asked()", x.asked(), asked);
        }
    }
}
