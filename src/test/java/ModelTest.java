import java.util.Arrays;
import java.util.Random;

/** Every promise once more: runs of calls by chance (always the same ones) on ThinAir and on the Model. */
public final class ModelTest {
    private static final int RUNS = 3000, CALLS = 512;
    private static final int[] WILD = {Integer.MIN_VALUE, -10000, -9999, -61, -1, 0, 1, 5, 6, 7, 8, 12, 28, 40, 41,
        61, 1000, 9999, 10000, Integer.MAX_VALUE};
    private final long seed;
    private final Random chance;
    private final ThinAir x = new ThinAir();
    private final Model model = new Model();
    private final StringBuilder calls = new StringBuilder();

    private ModelTest(long seed) {
        this.seed = seed;
        chance = new Random(seed);
    }

    public static void main(String[] args) {
        for (int seed = 0; seed < RUNS; seed++) {
            new ModelTest(seed).runs();
        }
        System.out.println(RUNS + " runs of " + CALLS + " calls are as the model's");
    }

    private void runs() {
        int made = 0;
        while (made < CALLS) {
            if (chance.nextInt(40) == 0) {
                made += writesText();
                continue;
            }
            String name = Calls.NAMES[chance.nextInt(Calls.NAMES.length)];
            if (chance.nextInt(4) == 0) {
                name = made < CALLS / 4 ? "place" : "mark";
            }
            agrees(name, arguments(name));
            made++;
        }
    }

    private int writesText() {
        int t = chance.nextInt(4);
        String signs = chance.nextBoolean() ? lawsText() : rulesText();
        signs = signs.length() > 40 ? signs.substring(0, 40) : signs;
        agrees("text", new int[] {t, signs.length()});
        for (int i = 0; i < signs.length(); i++) {
            agrees("put", new int[] {t, i, signs.charAt(i)});
        }
        return 1 + signs.length();
    }

    private String spoilt(String signs) {
        if (signs.isEmpty() || chance.nextInt(3) != 0) {
            return signs;
        }
        String all = " WHTFSwhsykdtv0123456789,:-x" + (char) 200;
        int at = chance.nextInt(signs.length());
        String rest = chance.nextBoolean() ? signs.substring(at) : signs.substring(at + 1);
        return signs.substring(0, at) + all.charAt(chance.nextInt(all.length())) + rest;
    }

    private String blanks() {
        return " ".repeat(chance.nextInt(5) == 0 ? 2 : chance.nextInt(2));
    }

    private String figures(boolean signed) {
        String sign = signed && chance.nextInt(4) == 0 ? "-" : "";
        return sign + chance.nextInt(chance.nextBoolean() ? 10 : 100);
    }

    private String lawsText() {
        StringBuilder signs = new StringBuilder(blanks());
        for (int items = chance.nextInt(7); items > 0; items--) {
            char letter = "WHTFS".charAt(chance.nextInt(5));
            signs.append(letter);
            if (letter == 'W' || letter == 'H') {
                signs.append(figures(true)).append(',').append(1 + chance.nextInt(20));
            } else if (letter == 'S') {
                signs.append(chance.nextInt(4)).append(':').append(figures(true));
            } else {
                signs.append(figures(true));
            }
            signs.append(blanks());
        }
        return spoilt(signs.toString());
    }

    private String rulesText() {
        StringBuilder signs = new StringBuilder(blanks());
        for (int items = chance.nextInt(4); items > 0; items--) {
            char letter = "whsykdtvv".charAt(chance.nextInt(9));
            signs.append(letter);
            if (letter == 'w' || letter == 'h') {
                signs.append(figures(false));
            } else if (letter == 'y') {
                signs.append(chance.nextInt(3));
            } else if (letter == 's') {
                signs.append(chance.nextInt(4));
            }
            signs.append(blanks());
        }
        return spoilt(signs.toString());
    }

    private int up(int most) {
        return chance.nextInt(most + 1);
    }

    private int wind() {
        return chance.nextInt(4) == 0 ? ThinAir.NONE : chance.nextBoolean() ? up(4) : up(120) - 60;
    }

    private int m() {
        int there = x.count(2);
        return there == 0 ? 0 : chance.nextInt(there);
    }

    private int p() {
        int there = x.count(1);
        return there == 0 ? 0 : chance.nextInt(there);
    }

    private int value() {
        return chance.nextBoolean() ? 1000 + up(5) : 1 + up(9998);
    }

    private int[] arguments(String name) {
        int[] a = fitting(name);
        if (a.length > 0 && chance.nextInt(8) == 0) {
            a[chance.nextInt(a.length)] = WILD[chance.nextInt(WILD.length)];
        }
        return a;
    }

    private int[] fitting(String name) {
        switch (name) {
            case "row": return new int[] {up(5), chance.nextBoolean() ? 3 * up(2) : up(40)};
            case "lay": return new int[] {up(5), up(8), new int[] {value(), wind(), up(3), up(3)}[up(3)]};
            case "tear": case "mean": return new int[] {up(5)};
            case "copy": return new int[] {up(5), up(4), up(5), up(4), up(5)};
            case "text": return new int[] {up(3), up(3)};
            case "put": return new int[] {up(3), up(8), up(600) - 300};
            case "later": return new int[] {up(60)};
            case "place": return new int[] {chance.nextBoolean() ? up(2) : up(40), 19 + up(2), up(1), up(3)};
            case "mark": return new int[] {chance.nextBoolean() ? up(1) : up(11), p(), value(), wind(), up(3)};
            case "marks": return new int[] {up(11), p(), up(5)};
            case "help": return new int[] {m(), 1 + up(998), chance.nextBoolean() ? ThinAir.NONE : up(5)};
            case "paper": case "cut": return new int[] {m(), 1 + up(998)};
            case "strike": return new int[] {m(), up(9)};
            case "told": return new int[] {m(), up(6)};
            case "tells": return new int[] {m(), 1 + up(4)};
            case "about": return new int[] {p(), up(3)};
            case "fault": return new int[] {up(3), up(1)};
            case "laws": return new int[] {up(1), up(3)};
            case "number": return new int[] {up(1), up(9)};
            case "gives": case "home": case "span": return new int[] {up(1), m()};
            case "sure": return new int[] {up(1), m(), m()};
            case "turns": return new int[] {up(1), up(1)};
            case "pairs": return new int[] {up(4)};
            case "learn": case "list": case "far": return new int[] {up(3)};
            case "just": return new int[] {chance.nextBoolean() ? up(4) : up(116) - 58};
            case "listed": return new int[] {up(3), up(8)};
            case "gains": return new int[] {up(3), up(3)};
            case "fall": return new int[] {up(9999), 1 + up(9998)};
            case "crowd": return new int[] {up(3), up(3), up(2), 1 + up(20)};
            case "count": return new int[] {up(7)};
            case "findings": return new int[] {1 + up(4)};
            default: return new int[0];
        }
    }

    private void agrees(String name, int[] a) {
        calls.append(name).append(Arrays.toString(a)).append('\n');
        long got = Calls.answer(x, name, a);
        long want = model.call(name, a);
        String unlike = Calls.unlike(x, model, got, want);
        if (unlike != null) {
            System.out.println(calls);
            System.out.println("run " + seed + ", " + name + Arrays.toString(a) + ": " + unlike);
            System.exit(1);
        }
    }
}
