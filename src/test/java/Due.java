/** What the tests share: checks that are counted, and TEXTS written sign by sign. */
final class Due {
    private static int right = 0;
    private static int wrong = 0;

    private Due() { }

    static void is(String call, long got, long want) {
        if (got == want) {
            right++;
        } else {
            wrong++;
            System.out.println(call + " answered " + got + ", due is " + want);
        }
    }

    /** A refusal by a FINDING: which one, counted once more, and nothing else changed. */
    static void finds(ThinAir x, String call, java.util.function.IntSupplier run, int finding) {
        long digest = x.digest();
        long upper = x.upper();
        long lower = x.lower();
        int asked = x.asked();
        int times = x.findings(finding);
        is(call, run.getAsInt(), ThinAir.FINDING);
        is(call + ": finding()", x.finding(), finding);
        is(call + ": findings(" + finding + ")", x.findings(finding), times + 1);
        same(x, call, digest, upper, lower, asked);
    }

    /** A refusal by another answer, which leaves all as it was, FINDINGS too. */
    static void refuses(ThinAir x, String call, java.util.function.IntSupplier run, int answer) {
        long digest = x.digest();
        long upper = x.upper();
        long lower = x.lower();
        int asked = x.asked();
        int finding = x.finding();
        int times = allFindings(x);
        is(call, run.getAsInt(), answer);
        is(call + ": finding()", x.finding(), finding);
        is(call + ": all findings()", allFindings(x), times);
        same(x, call, digest, upper, lower, asked);
    }

    static void bad(ThinAir x, String call, java.util.function.IntSupplier run) {
        refuses(x, call, run, ThinAir.BAD);
    }

    static void tells(ThinAir x, String call, long got, long want, long asked) {
        is(call, got, want);
        is(call + ": asked()", x.asked(), asked);
    }

    static void fraction(ThinAir x, String call, long got, long want, long upper, long lower) {
        is(call, got, want);
        is(call + ": upper()", x.upper(), upper);
        is(call + ": lower()", x.lower(), lower);
    }

    static void write(ThinAir x, int t, String signs) {
        x.text(t, signs.length());
        for (int i = 0; i < signs.length(); i++) {
            x.put(t, i, signs.charAt(i));
        }
    }

    static int allFindings(ThinAir x) {
        int times = 0;
        for (int f = 1; f <= 5; f++) {
            times += x.findings(f);
        }
        return times;
    }

    static void end() {
        System.out.println(right + " checks right, " + wrong + " wrong");
        if (wrong != 0) {
            System.exit(1);
        }
    }

    private static void same(ThinAir x, String call, long digest, long upper, long lower, int asked) {
        is(call + ": digest()", x.digest(), digest);
        is(call + ": upper()", x.upper(), upper);
        is(call + ": lower()", x.lower(), lower);
        is(call + ": asked()", x.asked(), asked);
    }
}
