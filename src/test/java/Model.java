import java.math.BigInteger;
import java.util.ArrayList;
import java.util.Comparator;
import java.util.HashMap;
import java.util.HashSet;
import java.util.List;
import java.util.Map;
import java.util.Set;
import java.util.TreeMap;

/** The document once more, written another way and with the whole library, to be held against ThinAir. */
final class Model {
    private static final int BAD = -1, FULL = -2, FINDING = -3, STATE = -4, NONE = -9999;

    private static final class Refused extends RuntimeException {
        private static final long serialVersionUID = 1L;
        final int answer;
        final int finding;

        Refused(int answer, int finding) {
            super(null, null, false, false);
            this.answer = answer;
            this.finding = finding;
        }
    }

    /** person, place, day, value, wind, shoe, then kind, much, hand, paper day, reason, since. */
    private static final int PERSON = 0, PLACE = 1, DAY = 2, VALUE = 3, WIND = 4, SHOE = 5,
        KIND = 6, MUCH = 7, HAND = 8, PAPERS = 9, REASON = 10, SINCE = 11;

    private final Map<Integer, int[]> rows = new TreeMap<>();
    private final Map<Integer, byte[]> texts = new TreeMap<>();
    private final List<int[]> places = new ArrayList<>();
    private final List<int[]> marks = new ArrayList<>();
    private final Map<Integer, Map<String, Integer>> laws = new HashMap<>();
    private final int[] found = new int[6];
    private int today;
    int asked;
    int finding;
    BigInteger upper = BigInteger.ZERO;
    BigInteger lower = BigInteger.ONE;

    private static void good(boolean fits) {
        if (!fits) {
            throw new Refused(BAD, 0);
        }
    }

    private static void unless(int finding, boolean fits) {
        if (!fits) {
            throw new Refused(FINDING, finding);
        }
    }

    private static void state(boolean fits) {
        if (!fits) {
            throw new Refused(STATE, 0);
        }
    }

    int findings(int f) {
        return f < 1 || f > 5 ? BAD : found[f];
    }

    /** One call by its name; the answer, and what is refused noted down. */
    long call(String name, int... a) {
        try {
            return run(name, a);
        } catch (Refused refused) {
            if (refused.finding != 0) {
                finding = refused.finding;
                found[finding]++;
            }
            return refused.answer;
        }
    }

    private long run(String name, int[] a) {
        switch (name) {
            case "row": return row(a[0], a[1]);
            case "lay": return lay(a[0], a[1], a[2]);
            case "tear": return tear(a[0]);
            case "copy": return copy(a[0], a[1], a[2], a[3], a[4]);
            case "mean": return mean(a[0]);
            case "text": return text(a[0], a[1]);
            case "put": return put(a[0], a[1], a[2]);
            case "later": return later(a[0]);
            case "place": return place(a);
            case "mark": return mark(a);
            case "marks": return marks(a[0], a[1], a[2]);
            case "help": return help(a[0], a[1], a[2]);
            case "paper": return paper(a[0], a[1]);
            case "cut": return cut(a[0], a[1]);
            case "strike": return strike(a[0], a[1]);
            case "told": return told(a[0], a[1]);
            case "tells": return tells(a[0], a[1]);
            case "about": return about(a[0], a[1]);
            case "fault": return fault(a[0], a[1] != 0);
            case "laws": return laws(a[0], a[1]);
            case "number": return number(a[0], a[1]);
            case "gives": return gives(a[0], a[1]);
            case "home": return home(a[0], a[1]);
            case "span": return span(a[0], a[1]);
            case "sure": return sure(a[0], a[1], a[2]);
            case "turns": return turns(a[0], a[1]);
            case "pairs": return pairs(a[0]);
            case "learn": return learn(a[0]);
            case "just": return just(a[0]);
            case "list": return list(a[0]);
            case "listed": return listed(a[0], a[1]);
            case "gains": return gains(a[0], a[1]);
            case "far": return far(a[0]);
            case "fall": return fall(a[0], a[1]);
            case "crowd": return crowd(a[0], a[1], a[2], a[3]);
            case "next": return next();
            case "count": return count(a[0]);
            case "findings": return findings(a[0]);
            case "digest": return digest();
            default: throw new IllegalStateException(name);
        }
    }

    private static boolean in(long v, long least, long greatest) {
        return least <= v && v <= greatest;
    }

    private int tell(int what) {
        asked = what;
        return 1;
    }

    private void tell(BigInteger over, BigInteger under) {
        BigInteger shared = over.gcd(under);
        upper = over.divide(shared);
        lower = under.divide(shared);
    }

    private int[] rowThere(int r) {
        unless(1, rows.containsKey(r));
        return rows.get(r);
    }

    private int row(int r, int n) {
        good(in(r, 0, 5) && n <= 40);
        unless(5, n >= 0);
        rows.put(r, new int[n]);
        return n;
    }

    private int lay(int r, int i, int v) {
        good(in(r, 0, 5));
        int[] row = rowThere(r);
        unless(2, in(i, 0, row.length - 1));
        tell(row[i]);
        row[i] = v;
        return 1;
    }

    private int tear(int r) {
        good(in(r, 0, 5));
        rowThere(r);
        rows.remove(r);
        return 1;
    }

    private int copy(int r, int i, int to, int j, int n) {
        good(in(r, 0, 5) && in(to, 0, 5));
        unless(5, n >= 0);
        int[] from = rowThere(r);
        int[] onto = rowThere(to);
        unless(2, i >= 0 && (long) i + n <= from.length && j >= 0 && (long) j + n <= onto.length);
        int[] taken = from.clone();
        for (int k = 0; k < n; k++) {
            onto[j + k] = taken[i + k];
        }
        return 1;
    }

    private int mean(int r) {
        good(in(r, 0, 5));
        int[] row = rowThere(r);
        unless(4, row.length > 0);
        BigInteger sum = BigInteger.ZERO;
        for (int v : row) {
            sum = sum.add(BigInteger.valueOf(v));
        }
        return tell(sum.divide(BigInteger.valueOf(row.length)).intValueExact());
    }

    private byte[] textThere(int t) {
        unless(1, texts.containsKey(t));
        return texts.get(t);
    }

    private int text(int t, int n) {
        good(in(t, 0, 3) && n <= 40);
        unless(5, n >= 0);
        byte[] blanks = new byte[n];
        java.util.Arrays.fill(blanks, (byte) 32);
        texts.put(t, blanks);
        return n;
    }

    private int put(int t, int i, int v) {
        good(in(t, 0, 3));
        byte[] text = textThere(t);
        unless(2, in(i, 0, text.length - 1));
        int before = text[i];
        text[i] = (byte) v;
        return before + 1000;
    }

    private int later(int n) {
        good(n >= 0 && (long) today + n <= 9999);
        today += n;
        return today;
    }

    private int place(int[] a) {
        good(in(a[0], 0, 40) && in(a[1], -20, 50) && in(a[2], 0, 1) && in(a[3], 0, 3));
        if (places.size() == 8) {
            return FULL;
        }
        places.add(a.clone());
        return places.size() - 1;
    }

    private static boolean likeMark(int value, int wind, int shoe) {
        return in(value, 1, 9999) && (wind == NONE || in(wind, -60, 60)) && in(shoe, 0, 3);
    }

    private int mark(int[] a) {
        good(in(a[0], 0, 11) && in(a[1], 0, places.size() - 1) && likeMark(a[2], a[3], a[4]));
        if (marks.size() == 40) {
            return FULL;
        }
        marks.add(new int[] {a[0], a[1], today, a[2], a[3], a[4], 0, 0, 0, 0, 0, 0});
        return marks.size() - 1;
    }

    private int marks(int person, int place, int r) {
        good(in(person, 0, 11) && in(place, 0, places.size() - 1) && in(r, 0, 5));
        int[] row = rowThere(r);
        unless(5, row.length % 3 == 0);
        int many = row.length / 3;
        if (marks.size() + many > 40) {
            return FULL;
        }
        for (int i = 0; i < many; i++) {
            unless(3, likeMark(row[3 * i], row[3 * i + 1], row[3 * i + 2]));
        }
        for (int i = 0; i < many; i++) {
            mark(new int[] {person, place, row[3 * i], row[3 * i + 1], row[3 * i + 2]});
        }
        return many;
    }

    private int[] markThere(int m) {
        good(in(m, 0, marks.size() - 1));
        return marks.get(m);
    }

    private int help(int m, int much, int hand) {
        int[] mark = markThere(m);
        good(in(much, 1, 999) && (hand == NONE || in(hand, 0, 5)));
        unless(3, mark[KIND] == 0);
        mark[KIND] = hand == NONE ? 1 : 2;
        mark[MUCH] = much;
        mark[HAND] = hand;
        return 1;
    }

    private int paper(int m, int much) {
        int[] mark = markThere(m);
        good(in(much, 1, 999));
        unless(3, mark[KIND] == 0);
        mark[KIND] = 3;
        mark[MUCH] = much;
        mark[PAPERS] = today;
        return 1;
    }

    private int cut(int m, int much) {
        int[] mark = markThere(m);
        good(in(much, 1, 999));
        unless(3, mark[KIND] == 0);
        mark[KIND] = 4;
        mark[MUCH] = much;
        return 1;
    }

    private int strike(int m, int reason) {
        int[] mark = markThere(m);
        good(in(reason, 0, 9));
        unless(3, mark[KIND] != 5);
        int before = mark[KIND];
        mark[KIND] = 5;
        mark[REASON] = reason;
        mark[SINCE] = today;
        return before;
    }

    private int told(int m, int what) {
        int[] mark = markThere(m);
        good(in(what, 0, 6));
        return tell(new int[] {mark[KIND], mark[PERSON], mark[PLACE], mark[DAY], mark[VALUE], mark[WIND],
            mark[SHOE]}[what]);
    }

    private static boolean isOf(int[] mark, int kind) {
        return kind == 1 ? in(mark[KIND], 1, 3) : mark[KIND] == kind;
    }

    private static int tale(int[] mark, int kind) {
        switch (kind) {
            case 0: return 0;
            case 2: return mark[HAND];
            case 3: return mark[PAPERS];
            case 5: return 10000 * mark[REASON] + mark[SINCE];
            default: return mark[MUCH];
        }
    }

    private int tells(int m, int kind) {
        int[] mark = markThere(m);
        good(in(kind, 1, 5));
        unless(3, isOf(mark, kind));
        return tale(mark, kind);
    }

    private int about(int p, int what) {
        good(in(p, 0, places.size() - 1) && in(what, 0, 3));
        return tell(places.get(p)[what]);
    }

    // A form of an item: n a number with a sign, b one above 0, q a shoe, 2 two figures at most, 1 a shoe by
    // one figure; any other sign is itself.
    private static final Map<Character, String> LAW_FORMS =
        Map.of('W', "n,b", 'H', "n,b", 'T', "n", 'F', "n", 'S', "q:n");
    private static final Map<Character, String> RULE_FORMS =
        Map.of('w', "2", 'h', "2", 'y', "2", 's', "1", 'k', "", 'd', "", 't', "", 'v', "");

    /** What is read of a text: items as {letter, numbers ..}, or a fault. */
    private static final class Reading {
        final List<int[]> items = new ArrayList<>();
        int fault = NONE;
    }

    private static Reading read(byte[] text, Map<Character, String> forms) {
        StringBuilder signs = new StringBuilder();
        for (byte b : text) {
            signs.append((char) (b & 255));
        }
        // A sign that fits nothing stands for the end.
        signs.append('\uffff');
        Reading reading = new Reading();
        int at = 0;
        while (true) {
            while (signs.charAt(at) == ' ') {
                at++;
            }
            if (at == text.length) {
                return reading;
            }
            String form = forms.get(signs.charAt(at));
            if (form == null) {
                reading.fault = at;
                return reading;
            }
            int[] item = new int[1 + form.length()];
            item[0] = signs.charAt(at);
            at = readForm(signs.toString(), at + 1, form, item);
            if (at < 0) {
                reading.fault = -1 - at;
                return reading;
            }
            reading.items.add(item);
        }
    }

    /** The place behind the item, or -1 less the place of the fault. */
    private static int readForm(String signs, int from, String form, int[] item) {
        int at = from;
        for (int f = 0; f < form.length(); f++) {
            char wanted = form.charAt(f);
            String pattern = wanted == 'n' || wanted == 'b' ? "-?[0-9]{1,2}"
                : wanted == 'q' ? "[0-3]" : wanted == '2' ? "[0-9]{1,2}" : wanted == '1' ? "[0-9]"
                : java.util.regex.Pattern.quote(String.valueOf(wanted));
            java.util.regex.Matcher matcher = java.util.regex.Pattern.compile(pattern).matcher(signs);
            matcher.region(at, signs.length());
            if (!matcher.lookingAt()) {
                boolean behindMinus = pattern.startsWith("-?") && signs.charAt(at) == '-';
                return -1 - (behindMinus ? at + 1 : at);
            }
            at = matcher.end();
            if (pattern.contains("[")) {
                item[1 + f] = Integer.parseInt(matcher.group());
            }
            if (wanted == 'b' && item[1 + f] <= 0 || wanted == '1' && item[1 + f] > 3) {
                return -1 - at;
            }
        }
        return at;
    }

    private int fault(int t, boolean rules) {
        good(in(t, 0, 3));
        return read(textThere(t), rules ? RULE_FORMS : LAW_FORMS).fault;
    }

    private int laws(int l, int t) {
        good(in(l, 0, 1) && in(t, 0, 3));
        Reading reading = read(textThere(t), LAW_FORMS);
        state(reading.fault == NONE);
        Map<String, Integer> fresh = new HashMap<>();
        for (int[] item : reading.items) {
            char letter = (char) item[0];
            if (letter == 'S') {
                fresh.put("S" + item[1], item[3]);
            } else {
                fresh.put(letter + "a", item[1]);
                if (item.length > 2) {
                    fresh.put(letter + "b", item[3]);
                }
            }
        }
        laws.put(l, fresh);
        return reading.items.size();
    }

    private Map<String, Integer> lawsThere(int l) {
        unless(1, laws.containsKey(l));
        return laws.get(l);
    }

    private static final String[] NUMBERS = {"Wa", "Wb", "Ha", "Hb", "Ta", "Fa", "S0", "S1", "S2", "S3"};

    private static int of(Map<String, Integer> by, String name) {
        return by.getOrDefault(name, 0);
    }

    private int number(int l, int which) {
        good(in(l, 0, 1) && in(which, 0, 9));
        return tell(of(lawsThere(l), NUMBERS[which]));
    }

    private static int one(Map<String, Integer> by, String letter, int k) {
        return by.containsKey(letter + "a") ? of(by, letter + "a") - k / of(by, letter + "b") : 0;
    }

    private static int windGives(Map<String, Integer> by, int wind) {
        if (wind == NONE) {
            return 0;
        }
        int given = 0;
        for (int k = 1; k <= wind; k++) {
            given += one(by, "W", k);
        }
        for (int k = -1; k >= wind; k--) {
            given -= of(by, "Wa");
        }
        return given;
    }

    private int given(Map<String, Integer> by, int[] mark) {
        int[] place = places.get(mark[PLACE]);
        int given = windGives(by, mark[WIND]);
        for (int k = 1; k <= place[0]; k++) {
            given += one(by, "H", k);
        }
        given += (place[1] - 20) * of(by, "Ta");
        given += place[2] == 1 ? of(by, "Fa") : 0;
        return given + of(by, "S" + mark[SHOE]);
    }

    private int atHome(Map<String, Integer> by, int[] mark) {
        return mark[VALUE] - given(by, mark) - (in(mark[KIND], 1, 4) ? mark[MUCH] : 0);
    }

    private int[] spanOf(Map<String, Integer> by, int[] mark) {
        int home = atHome(by, mark);
        if (mark[WIND] != NONE) {
            return new int[] {home, home};
        }
        List<Integer> homes = new ArrayList<>();
        for (int wind = 0; wind <= 20; wind++) {
            int[] blown = mark.clone();
            blown[WIND] = wind;
            homes.add(atHome(by, blown));
        }
        homes.sort(null);
        return new int[] {homes.get(0), homes.get(20)};
    }

    private int gives(int l, int m) {
        good(in(l, 0, 1));
        int[] mark = markThere(m);
        return tell(given(lawsThere(l), mark));
    }

    private int home(int l, int m) {
        good(in(l, 0, 1));
        int[] mark = markThere(m);
        return tell(atHome(lawsThere(l), mark));
    }

    private int span(int l, int m) {
        good(in(l, 0, 1));
        int[] mark = markThere(m);
        int[] ends = spanOf(lawsThere(l), mark);
        tell(ends[0]);
        return ends[1] - ends[0];
    }

    private int sure(int l, int m, int other) {
        good(in(l, 0, 1));
        int[] mark = markThere(m);
        int[] second = markThere(other);
        return spanOf(lawsThere(l), mark)[0] > spanOf(lawsThere(l), second)[1] ? 1 : 0;
    }

    private int turns(int l, int which) {
        good(in(l, 0, 1) && in(which, 0, 1));
        Map<String, Integer> by = lawsThere(l);
        for (int k = 1; k <= (which == 0 ? 60 : 40); k++) {
            if (one(by, which == 0 ? "W" : "H", k) < 0) {
                return k;
            }
        }
        return NONE;
    }

    private int[] measures(int[] mark) {
        int[] place = places.get(mark[PLACE]);
        return new int[] {mark[WIND], place[0], place[1], place[2], mark[SHOE]};
    }

    private List<int[]> pairsUnlikeIn(int which) {
        List<int[]> all = new ArrayList<>();
        for (int m = 0; m < marks.size(); m++) {
            for (int n = m + 1; n < marks.size(); n++) {
                int[] a = marks.get(m);
                int[] b = marks.get(n);
                Set<Integer> unlike = new HashSet<>();
                for (int i = 0; i < 5; i++) {
                    if (measures(a)[i] != measures(b)[i]) {
                        unlike.add(i);
                    }
                }
                boolean winds = a[WIND] == b[WIND] || a[WIND] != NONE && b[WIND] != NONE;
                if (a[PERSON] == b[PERSON] && b[DAY] - a[DAY] < 365 && a[KIND] + b[KIND] == 0 && winds
                        && unlike.equals(Set.of(which))) {
                    all.add(new int[] {m, n});
                }
            }
        }
        return all;
    }

    private int pairs(int which) {
        good(in(which, 0, 4));
        List<int[]> all = pairsUnlikeIn(which);
        tell(all.isEmpty() ? NONE : 100 * all.get(0)[0] + all.get(0)[1]);
        return all.size();
    }

    private int learn(int which) {
        good(in(which, 0, 3));
        List<int[]> all = pairsUnlikeIn(which);
        unless(4, !all.isEmpty());
        long values = 0;
        long by = 0;
        for (int[] pair : all) {
            int[] a = marks.get(pair[0]);
            int[] b = marks.get(pair[1]);
            int[] greater = measures(a)[which] > measures(b)[which] ? a : b;
            int[] lesser = greater == a ? b : a;
            values += greater[VALUE] - lesser[VALUE];
            by += measures(greater)[which] - measures(lesser)[which];
        }
        tell(BigInteger.valueOf(values), BigInteger.valueOf(by));
        return all.size();
    }

    /** Pascal's way. */
    private static BigInteger choose(int n, int k) {
        BigInteger[] line = new BigInteger[n + 2];
        java.util.Arrays.fill(line, BigInteger.ZERO);
        line[0] = BigInteger.ONE;
        for (int i = 0; i < n; i++) {
            for (int j = i + 1; j > 0; j--) {
                line[j] = line[j].add(line[j - 1]);
            }
        }
        return k < 0 || k > n ? BigInteger.ZERO : line[k];
    }

    private int just(int w) {
        good(in(w, -58, 58));
        List<Integer> winds = new ArrayList<>();
        for (int[] mark : marks) {
            if (winds.size() < 20 && Math.abs(mark[WIND] - w) <= 2) {
                winds.add(mark[WIND]);
            }
        }
        unless(4, !winds.isEmpty());
        int n = winds.size();
        int x = 0;
        for (int wind : winds) {
            x += wind == w ? 1 : 0;
        }
        BigInteger fewer = BigInteger.ZERO;
        for (int j = 0; j < x; j++) {
            fewer = fewer.add(choose(n, j).multiply(BigInteger.valueOf(4).pow(n - j)));
        }
        BigInteger all = BigInteger.valueOf(5).pow(n);
        tell(all.subtract(fewer), all);
        return x;
    }

    private boolean lets(List<int[]> items, int[] mark) {
        for (int[] item : items) {
            boolean let;
            switch (item[0]) {
                case 'w': let = mark[WIND] != NONE && mark[WIND] <= item[1]; break;
                case 'h': let = places.get(mark[PLACE])[0] <= item[1]; break;
                case 's': let = mark[SHOE] != item[1]; break;
                case 'y': let = mark[DAY] / 365 >= item[1]; break;
                case 'k': let = mark[KIND] != 5; break;
                case 'd': let = mark[KIND] != 3; break;
                case 't': let = mark[KIND] != 4; break;
                default: let = true;
            }
            if (!let) {
                return false;
            }
        }
        return true;
    }

    /** {mark, what counts} of all that the rules let, the best first. */
    private List<int[]> ordered(int... ts) {
        for (int t : ts) {
            good(in(t, 0, 3));
        }
        for (int t : ts) {
            textThere(t);
        }
        for (int t : ts) {
            state(read(texts.get(t), RULE_FORMS).fault == NONE);
        }
        boolean homes = false;
        for (int t : ts) {
            homes = false;
            for (int[] item : read(texts.get(t), RULE_FORMS).items) {
                homes |= item[0] == 'v';
            }
            unless(1, !homes || laws.containsKey(0));
        }
        List<int[]> all = new ArrayList<>();
        List<int[]> items = read(texts.get(ts[ts.length - 1]), RULE_FORMS).items;
        for (int m = 0; m < marks.size(); m++) {
            int[] mark = marks.get(m);
            if (lets(items, mark)) {
                all.add(new int[] {m, homes ? atHome(laws.get(0), mark) : mark[VALUE]});
            }
        }
        all.sort(Comparator.<int[]>comparingInt(e -> -e[1]).thenComparingInt(e -> e[0]));
        return all;
    }

    private List<int[]> listBy(int... ts) {
        List<int[]> all = ordered(ts);
        List<int[]> list = new ArrayList<>();
        for (int person = 0; person < 12; person++) {
            for (int[] entry : all) {
                if (marks.get(entry[0])[PERSON] == person) {
                    list.add(entry);
                    break;
                }
            }
        }
        list.sort(Comparator.<int[]>comparingInt(e -> -e[1]).thenComparingInt(e -> e[0]));
        return list;
    }

    private int list(int t) {
        List<int[]> list = listBy(t);
        tell(list.isEmpty() ? NONE : list.get(0)[0]);
        return list.size();
    }

    private int listed(int t, int i) {
        good(in(t, 0, 3) && i >= 0);
        List<int[]> list = listBy(t);
        if (i >= list.size()) {
            return NONE;
        }
        tell(list.get(i)[1]);
        return list.get(i)[0];
    }

    private Map<Integer, Integer> seats(List<int[]> list) {
        Map<Integer, Integer> seats = new HashMap<>();
        for (int i = 0; i < list.size(); i++) {
            seats.put(marks.get(list.get(i)[0])[PERSON], i);
        }
        return seats;
    }

    private int gains(int t, int other) {
        Map<Integer, Integer> seconds = seats(listBy(t, other));
        Map<Integer, Integer> firsts = seats(listBy(t));
        int bits = 0;
        int many = 0;
        for (int person : firsts.keySet()) {
            if (!seconds.containsKey(person) || firsts.get(person) < seconds.get(person)) {
                bits += 1 << person;
                many++;
            }
        }
        tell(bits);
        return many;
    }

    private int far(int t) {
        List<int[]> list = listBy(t);
        unless(4, list.size() >= 3);
        int second = list.get(1)[1];
        int last = list.get(list.size() - 1)[1];
        unless(4, second != last);
        tell(BigInteger.valueOf(list.get(0)[1] - second), BigInteger.valueOf(second - last));
        return list.size();
    }

    private int fall(int n, int k) {
        good(in(n, 0, 9999) && in(k, 1, 9999));
        tell(BigInteger.valueOf(k), BigInteger.valueOf(n + k));
        return 1;
    }

    private int crowd(int rules, int land, int year, int t) {
        good(in(rules, 0, 3) && in(land, 0, 3) && in(year, 0, 27) && in(t, 1, 40));
        List<int[]> all = ordered(rules);
        int these = 0;
        int best = 0;
        for (int i = 0; i < all.size(); i++) {
            int[] mark = marks.get(all.get(i)[0]);
            if (places.get(mark[PLACE])[3] == land && mark[DAY] / 365 == year) {
                these++;
                best += i < t ? 1 : 0;
            }
        }
        unless(4, these > 0 && t <= all.size());
        // Choices of these among all: those with fewer than so many among the best are taken off.
        BigInteger choices = choose(all.size(), these);
        BigInteger ways = choices;
        for (int j = 0; j < best; j++) {
            ways = ways.subtract(choose(t, j).multiply(choose(all.size() - t, these - j)));
        }
        tell(ways, choices);
        return best;
    }

    private int next() {
        int[] many = new int[8];
        for (int[] mark : marks) {
            many[mark[PLACE]] += mark[WIND] == NONE ? 1 : 0;
        }
        for (int most = 40; most > 0; most--) {
            for (int p = 0; p < 8; p++) {
                if (many[p] == most) {
                    tell(most);
                    return p;
                }
            }
        }
        return NONE;
    }

    private int count(int what) {
        good(in(what, 0, 7));
        int helped = 0;
        int struck = 0;
        for (int[] mark : marks) {
            helped += isOf(mark, 1) ? 1 : 0;
            struck += isOf(mark, 5) ? 1 : 0;
        }
        return new int[] {today, places.size(), marks.size(), helped, struck, rows.size(), texts.size(),
            laws.size()}[what];
    }

    long digest() {
        List<Long> all = new ArrayList<>();
        for (int what = 0; what <= 7; what++) {
            all.add((long) count(what));
        }
        for (int[] place : places) {
            for (int v : place) {
                all.add((long) v);
            }
        }
        for (int[] mark : marks) {
            for (int i : new int[] {KIND, PERSON, PLACE, DAY, VALUE, WIND, SHOE}) {
                all.add((long) mark[i]);
            }
            all.add((long) tale(mark, mark[KIND]));
        }
        for (int l = 0; l < 2; l++) {
            if (!laws.containsKey(l)) {
                all.add(-1L);
                continue;
            }
            for (String name : NUMBERS) {
                all.add((long) of(laws.get(l), name));
            }
        }
        for (int r = 0; r < 6; r++) {
            int[] row = rows.get(r);
            all.add(row == null ? -1L : row.length);
            for (int i = 0; row != null && i < row.length; i++) {
                all.add((long) row[i]);
            }
        }
        for (int t = 0; t < 4; t++) {
            byte[] text = texts.get(t);
            all.add(text == null ? -1L : text.length);
            for (int i = 0; text != null && i < text.length; i++) {
                all.add((long) text[i]);
            }
        }
        long h = 17;
        for (long v : all) {
            h = 31 * h + v;
        }
        return h;
    }
}
