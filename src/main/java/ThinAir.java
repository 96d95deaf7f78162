import java.util.Arrays;

/** A record of marks in thin air: laws of air and floor, lists by rules, odds. */
public final class ThinAir {
    public static final int BAD = -1, FULL = -2, FINDING = -3, STATE = -4, NONE = -9999;

    private static final int NOTHING = 1, BEYOND = 2, UNLIKE = 3, NOUGHT = 4, SIZE = 5;
    private static final int ROWS = 6, TEXTS = 4, LONGEST = 40, LAWS = 2;
    private static final int PLACES = 8, MARKS = 40, PERSONS = 12, SHOES = 4, LANDS = 4;
    private static final int LAST_DAY = 9999, YEAR = 365, LAST_YEAR = 27;
    private static final int GREATEST_VALUE = 9999, GREATEST_WIND = 60, GREATEST_HEIGHT = 40;
    private static final int MOST_HELP = 999, LAST_HAND = 5, LAST_REASON = 9, REASON_STEP = 10000;
    private static final int PLAIN = 0, HELPED = 1, GAUGED = 2, LATER = 3, SHORT = 4, STRUCK = 5;
    private static final int WIND = 0, HEIGHT = 1, HEAT = 2, FLOOR = 3, MEASURES = 5;
    private static final int PUT_STEP = 1000, PAIR_STEP = 100, JUST_MOST = 20;

    private final Row[] theRows;
    private final Text[] theTexts;
    private final Place[] thePlaces;
    private final Mark[] theMarks;
    private final Laws[] theLaws;
    private final Ranking ranking;
    private final Ranking otherRanking;
    private final int[] timesFound;
    private int today;
    private int placesTold;
    private int marksTold;
    private int answer;
    private int latestFinding;
    private long upperNumber;
    private long lowerNumber;

    public ThinAir() {
        theRows = new Row[ROWS];
        for (int r = 0; r < ROWS; r++) {
            theRows[r] = new Row();
        }
        theTexts = new Text[TEXTS];
        for (int t = 0; t < TEXTS; t++) {
            theTexts[t] = new Text();
        }
        thePlaces = new Place[PLACES];
        theMarks = new Mark[MARKS];
        theLaws = new Laws[LAWS];
        ranking = new Ranking();
        otherRanking = new Ranking();
        timesFound = new int[SIZE + 1];
        lowerNumber = 1;
    }

    // ---- 1 rows, texts, places, marks

    public int row(int r, int n) {
        Row row = rowAt(r);
        if (row == null || n > LONGEST) {
            return BAD;
        }
        if (n < 0) {
            return found(SIZE);
        }
        row.begin(n);
        return n;
    }

    public int lay(int r, int i, int v) {
        Row row = rowAt(r);
        if (row == null) {
            return BAD;
        }
        if (row.isMissing()) {
            return found(NOTHING);
        }
        if (!row.has(i)) {
            return found(BEYOND);
        }
        int before = row.cells[i];
        row.cells[i] = v;
        return tell(before);
    }

    public int tear(int r) {
        Row row = rowAt(r);
        if (row == null) {
            return BAD;
        }
        if (row.isMissing()) {
            return found(NOTHING);
        }
        row.size = -1;
        return 1;
    }

    public int copy(int r, int i, int to, int j, int n) {
        Row from = rowAt(r);
        Row onto = rowAt(to);
        if (from == null || onto == null) {
            return BAD;
        }
        if (n < 0) {
            return found(SIZE);
        }
        if (from.isMissing() || onto.isMissing()) {
            return found(NOTHING);
        }
        if (!from.hasRun(i, n) || !onto.hasRun(j, n)) {
            return found(BEYOND);
        }
        System.arraycopy(from.cells, i, onto.cells, j, n);
        return 1;
    }

    public int mean(int r) {
        Row row = rowAt(r);
        if (row == null) {
            return BAD;
        }
        if (row.isMissing()) {
            return found(NOTHING);
        }
        if (row.size == 0) {
            return found(NOUGHT);
        }
        return tell((int) (row.sum() / row.size));
    }

    public int text(int t, int n) {
        Text text = textAt(t);
        if (text == null || n > LONGEST) {
            return BAD;
        }
        if (n < 0) {
            return found(SIZE);
        }
        text.begin(n);
        return n;
    }

    public int put(int t, int i, int v) {
        Text text = textAt(t);
        if (text == null) {
            return BAD;
        }
        if (text.isMissing()) {
            return found(NOTHING);
        }
        if (!text.has(i)) {
            return found(BEYOND);
        }
        int before = text.signs[i];
        text.signs[i] = (byte) v;
        return before + PUT_STEP;
    }

    public int later(int n) {
        if (n < 0 || n > LAST_DAY - today) {
            return BAD;
        }
        today += n;
        return today;
    }

    public int place(int height, int heat, int floor, int land) {
        if (!within(height, 0, GREATEST_HEIGHT) || !within(heat, -20, 50)
                || !within(floor, 0, 1) || !within(land, 0, LANDS - 1)) {
            return BAD;
        }
        if (placesTold >= PLACES) {
            return FULL;
        }
        thePlaces[placesTold] = new Place(height, heat, floor, land);
        placesTold++;
        return placesTold - 1;
    }

    public int mark(int person, int place, int value, int wind, int shoe) {
        if (!within(person, 0, PERSONS - 1) || placeAt(place) == null || !canBeMark(value, wind, shoe)) {
            return BAD;
        }
        if (marksTold >= MARKS) {
            return FULL;
        }
        return addMark(person, place, value, wind, shoe);
    }

    public int marks(int person, int place, int r) {
        Row row = rowAt(r);
        if (!within(person, 0, PERSONS - 1) || placeAt(place) == null || row == null) {
            return BAD;
        }
        if (row.isMissing()) {
            return found(NOTHING);
        }
        if (row.size % 3 != 0) {
            return found(SIZE);
        }
        if (row.size / 3 > MARKS - marksTold) {
            return FULL;
        }
        for (int i = 0; i + 2 < row.size; i += 3) {
            if (!canBeMark(row.cells[i], row.cells[i + 1], row.cells[i + 2])) {
                return found(UNLIKE);
            }
        }
        for (int i = 0; i + 2 < row.size; i += 3) {
            addMark(person, place, row.cells[i], row.cells[i + 1], row.cells[i + 2]);
        }
        return row.size / 3;
    }

    public int help(int m, int much, int hand) {
        if (hand == NONE) {
            return becomes(m, HELPED, much, much);
        }
        return within(hand, 0, LAST_HAND) ? becomes(m, GAUGED, much, hand) : BAD;
    }

    public int paper(int m, int much) {
        return becomes(m, LATER, much, today);
    }

    public int cut(int m, int much) {
        return becomes(m, SHORT, much, much);
    }

    public int strike(int m, int reason) {
        Mark mark = markAt(m);
        if (mark == null || !within(reason, 0, LAST_REASON)) {
            return BAD;
        }
        if (mark.kind == STRUCK) {
            return found(UNLIKE);
        }
        int before = mark.kind;
        mark.turnInto(STRUCK, 0, REASON_STEP * reason + today);
        return before;
    }

    public int told(int m, int what) {
        Mark mark = markAt(m);
        if (mark == null || !within(what, 0, 6)) {
            return BAD;
        }
        return tell(mark.part(what));
    }

    public int tells(int m, int kind) {
        Mark mark = markAt(m);
        if (mark == null || !within(kind, HELPED, STRUCK)) {
            return BAD;
        }
        if (kind == mark.kind) {
            return mark.ownTale;
        }
        return kind == HELPED && mark.isHelped() ? mark.much : found(UNLIKE);
    }

    public int about(int p, int what) {
        Place place = placeAt(p);
        if (place == null || !within(what, 0, 3)) {
            return BAD;
        }
        return tell(place.part(what));
    }

    // ---- 2 laws, home

    public int fault(int t, boolean rules) {
        Text text = textAt(t);
        if (text == null) {
            return BAD;
        }
        if (text.isMissing()) {
            return found(NOTHING);
        }
        Reader reader = new Reader(text);
        int items = rules ? new Rules().readAll(reader) : new Laws().readAll(reader);
        return items == NONE ? reader.at : NONE;
    }

    public int laws(int l, int t) {
        Text text = textAt(t);
        if (!within(l, 0, LAWS - 1) || text == null) {
            return BAD;
        }
        if (text.isMissing()) {
            return found(NOTHING);
        }
        Laws fresh = new Laws();
        int items = fresh.readAll(new Reader(text));
        if (items == NONE) {
            return STATE;
        }
        theLaws[l] = fresh;
        return items;
    }

    public int number(int l, int which) {
        if (!within(l, 0, LAWS - 1) || !within(which, 0, Laws.NUMBERS - 1)) {
            return BAD;
        }
        Laws laws = theLaws[l];
        return laws == null ? found(NOTHING) : tell(laws.numbers[which]);
    }

    public int gives(int l, int m) {
        Mark mark = markAt(m);
        if (!within(l, 0, LAWS - 1) || mark == null) {
            return BAD;
        }
        Laws laws = theLaws[l];
        return laws == null ? found(NOTHING) : tell(laws.allGiven(mark));
    }

    public int home(int l, int m) {
        Mark mark = markAt(m);
        if (!within(l, 0, LAWS - 1) || mark == null) {
            return BAD;
        }
        Laws laws = theLaws[l];
        return laws == null ? found(NOTHING) : tell(laws.valueAtHome(mark));
    }

    public int span(int l, int m) {
        Mark mark = markAt(m);
        if (!within(l, 0, LAWS - 1) || mark == null) {
            return BAD;
        }
        Laws laws = theLaws[l];
        if (laws == null) {
            return found(NOTHING);
        }
        int least = laws.leastAtHome(mark);
        tell(least);
        return laws.greatestAtHome(mark) - least;
    }

    public int sure(int l, int m, int other) {
        Mark mark = markAt(m);
        Mark otherMark = markAt(other);
        if (!within(l, 0, LAWS - 1) || mark == null || otherMark == null) {
            return BAD;
        }
        Laws laws = theLaws[l];
        if (laws == null) {
            return found(NOTHING);
        }
        return laws.leastAtHome(mark) > laws.greatestAtHome(otherMark) ? 1 : 0;
    }

    public int turns(int l, int which) {
        if (!within(l, 0, LAWS - 1) || !within(which, 0, 1)) {
            return BAD;
        }
        Laws laws = theLaws[l];
        if (laws == null) {
            return found(NOTHING);
        }
        return which == 0 ? laws.firstBelowNought(Laws.WIND_ITEM, GREATEST_WIND)
                : laws.firstBelowNought(Laws.HEIGHT_ITEM, GREATEST_HEIGHT);
    }

    // ---- 3 learnt, lists, odds

    public int pairs(int which) {
        if (!within(which, 0, MEASURES - 1)) {
            return BAD;
        }
        int many = 0;
        int first = NONE;
        for (int m = 0; m < marksTold; m++) {
            for (int other = m + 1; other < marksTold; other++) {
                if (unlikeIn(theMarks[m], theMarks[other]) == which) {
                    first = many == 0 ? PAIR_STEP * m + other : first;
                    many++;
                }
            }
        }
        tell(first);
        return many;
    }

    public int learn(int which) {
        if (!within(which, WIND, FLOOR)) {
            return BAD;
        }
        int many = 0;
        int values = 0;
        int measures = 0;
        for (int m = 0; m < marksTold; m++) {
            for (int other = m + 1; other < marksTold; other++) {
                if (unlikeIn(theMarks[m], theMarks[other]) == which) {
                    int unlike = theMarks[m].measure(which) - theMarks[other].measure(which);
                    int ahead = theMarks[m].value - theMarks[other].value;
                    values += unlike > 0 ? ahead : -ahead;
                    measures += Math.abs(unlike);
                    many++;
                }
            }
        }
        if (many == 0) {
            return found(NOUGHT);
        }
        tellFraction(values, measures);
        return many;
    }

    public int just(int w) {
        if (!within(w, 2 - GREATEST_WIND, GREATEST_WIND - 2)) {
            return BAD;
        }
        int near = 0;
        int exact = 0;
        for (int m = 0; m < marksTold && near < JUST_MOST; m++) {
            // NONE lies far below every gauged WIND, so a MARK without WIND is never near.
            if (within(theMarks[m].wind, w - 2, w + 2)) {
                near++;
                exact += theMarks[m].wind == w ? 1 : 0;
            }
        }
        if (near == 0) {
            return found(NOUGHT);
        }
        tellOddsOfFive(exact, near);
        return exact;
    }

    public int list(int t) {
        int refused = rank(t, true);
        if (refused != 0) {
            return refused;
        }
        tell(ranking.size == 0 ? NONE : ranking.who[0]);
        return ranking.size;
    }

    public int listed(int t, int i) {
        if (i < 0) {
            return BAD;
        }
        int refused = rank(t, true);
        if (refused != 0) {
            return refused;
        }
        if (i >= ranking.size) {
            return NONE;
        }
        tell(ranking.worth[i]);
        return ranking.who[i];
    }

    public int gains(int t, int other) {
        int refused = rankBoth(t, other);
        if (refused != 0) {
            return refused;
        }
        int gainers = 0;
        for (int person = 0; person < PERSONS; person++) {
            if (ranking.seats[person] < otherRanking.seats[person]) {
                gainers |= 1 << person;
            }
        }
        tell(gainers);
        return Integer.bitCount(gainers);
    }

    public int far(int t) {
        int refused = rank(t, true);
        if (refused != 0) {
            return refused;
        }
        int size = ranking.size;
        if (size < 3 || ranking.worth[1] == ranking.worth[size - 1]) {
            return found(NOUGHT);
        }
        tellFraction(ranking.worth[0] - ranking.worth[1], ranking.worth[1] - ranking.worth[size - 1]);
        return size;
    }

    public int fall(int n, int k) {
        if (!within(n, 0, 9999) || !within(k, 1, 9999)) {
            return BAD;
        }
        tellFraction(k, n + k);
        return 1;
    }

    public int crowd(int rules, int land, int year, int t) {
        if (!within(land, 0, LANDS - 1) || !within(year, 0, LAST_YEAR) || !within(t, 1, MARKS)) {
            return BAD;
        }
        int refused = rank(rules, false);
        if (refused != 0) {
            return refused;
        }
        int these = 0;
        int best = 0;
        for (int i = 0; i < ranking.size; i++) {
            Mark mark = markAt(ranking.who[i]);
            if (mark != null && mark.where.land == land && mark.day / YEAR == year) {
                these++;
                best += i < t ? 1 : 0;
            }
        }
        if (these == 0 || t > ranking.size) {
            return found(NOUGHT);
        }
        tellOddsOfChoice(best, these, t, ranking.size);
        return best;
    }

    public int next() {
        int first = NONE;
        int most = 0;
        for (int p = 0; p < placesTold; p++) {
            int many = marksWithoutWind(p);
            if (many > most) {
                first = p;
                most = many;
            }
        }
        if (first != NONE) {
            tell(most);
        }
        return first;
    }

    // ---- 4 what is told

    public int asked() {
        return answer;
    }

    public long upper() {
        return upperNumber;
    }

    public long lower() {
        return lowerNumber;
    }

    public int count(int what) {
        switch (what) {
            case 0:
                return today;
            case 1:
                return placesTold;
            case 2:
                return marksTold;
            case 3:
                return marksHelped();
            case 4:
                return marksStruck();
            case 5:
                return stripsThere(theRows);
            case 6:
                return stripsThere(theTexts);
            case 7:
                return lawsThere();
            default:
                return BAD;
        }
    }

    public int finding() {
        return latestFinding;
    }

    public int findings(int f) {
        return within(f, NOTHING, SIZE) ? timesFound[f] : BAD;
    }

    public long digest() {
        long h = 17;
        for (int what = 0; what <= 7; what++) {
            h = 31 * h + count(what);
        }
        for (int p = 0; p < placesTold; p++) {
            h = thePlaces[p].mixInto(h);
        }
        for (int m = 0; m < marksTold; m++) {
            h = theMarks[m].mixInto(h);
        }
        for (int l = 0; l < LAWS; l++) {
            h = theLaws[l] == null ? 31 * h - 1 : theLaws[l].mixInto(h);
        }
        for (int r = 0; r < ROWS; r++) {
            h = theRows[r].mixInto(h);
        }
        for (int t = 0; t < TEXTS; t++) {
            h = theTexts[t].mixInto(h);
        }
        return h;
    }

    // ---- what the calls share

    private static boolean within(int v, int least, int greatest) {
        return v >= least && v <= greatest;
    }

    private Row rowAt(int r) {
        return within(r, 0, ROWS - 1) ? theRows[r] : null;
    }

    private Text textAt(int t) {
        return within(t, 0, TEXTS - 1) ? theTexts[t] : null;
    }

    private Place placeAt(int p) {
        return within(p, 0, placesTold - 1) ? thePlaces[p] : null;
    }

    private Mark markAt(int m) {
        return within(m, 0, marksTold - 1) ? theMarks[m] : null;
    }

    private int found(int f) {
        latestFinding = f;
        timesFound[f]++;
        return FINDING;
    }

    private int tell(int what) {
        answer = what;
        return 1;
    }

    private void tellFraction(long over, long under) {
        long shared = commonDivisor(Math.abs(over), under);
        if (shared > 0) {
            upperNumber = over / shared;
            lowerNumber = under / shared;
        }
    }

    /** Odds that of so many, each of five alike likely, as many or more are one of the five. */
    private void tellOddsOfFive(int hitsAtLeast, int many) {
        long ways = 0;
        for (int hits = hitsAtLeast; hits <= many; hits++) {
            ways += choose(many, hits) * power(4, many - hits);
        }
        tellFraction(ways, power(5, many));
    }

    /** Odds that of so many chosen out of all, as many or more are among the best, all choices alike likely. */
    private void tellOddsOfChoice(int hitsAtLeast, int chosen, int best, int all) {
        long ways = 0;
        for (int hits = hitsAtLeast; hits <= chosen; hits++) {
            ways += choose(best, hits) * choose(all - best, chosen - hits);
        }
        tellFraction(ways, choose(all, chosen));
    }

    private static long commonDivisor(long a, long b) {
        long greater = a;
        long lesser = b;
        // Euclid's steps on two longs are never more than 92.
        for (int step = 0; step < 100 && lesser != 0; step++) {
            long rest = greater % lesser;
            greater = lesser;
            lesser = rest;
        }
        return greater;
    }

    private static long choose(int n, int k) {
        if (k < 0 || k > n) {
            return 0;
        }
        long ways = 1;
        for (int i = 1; i <= k; i++) {
            ways = ways * (n - k + i) / i;
        }
        return ways;
    }

    private static long power(int base, int exponent) {
        long product = 1;
        for (int i = 0; i < exponent; i++) {
            product *= base;
        }
        return product;
    }

    private static boolean canBeMark(int value, int wind, int shoe) {
        return within(value, 1, GREATEST_VALUE)
                && (wind == NONE || within(wind, -GREATEST_WIND, GREATEST_WIND))
                && within(shoe, 0, SHOES - 1);
    }

    private int addMark(int person, int place, int value, int wind, int shoe) {
        Place where = placeAt(place);
        if (where == null || marksTold >= MARKS) {
            return BAD;
        }
        theMarks[marksTold] = new Mark(person, place, where, today, value, wind, shoe);
        marksTold++;
        return marksTold - 1;
    }

    private int becomes(int m, int kind, int much, int tale) {
        Mark mark = markAt(m);
        if (mark == null || !within(much, 1, MOST_HELP)) {
            return BAD;
        }
        if (mark.kind != PLAIN) {
            return found(UNLIKE);
        }
        mark.turnInto(kind, much, tale);
        return 1;
    }

    /** In which measure alone two MARKS are unlike; NONE: they are no PAIR. */
    private static int unlikeIn(Mark one, Mark two) {
        if (one.person != two.person || one.kind != PLAIN || two.kind != PLAIN
                || Math.abs(one.day - two.day) >= YEAR) {
            return NONE;
        }
        if ((one.wind == NONE) != (two.wind == NONE)) {
            return NONE;
        }
        int alone = NONE;
        for (int which = 0; which < MEASURES; which++) {
            if (one.measure(which) != two.measure(which)) {
                if (alone != NONE) {
                    return NONE;
                }
                alone = which;
            }
        }
        return alone;
    }

    /** Ranks MARKS by the RULES of a TEXT, one of each PERSON or all; 0, or what it is refused by. */
    private int rank(int t, boolean oneOfEach) {
        Text text = textAt(t);
        if (text == null) {
            return BAD;
        }
        if (text.isMissing()) {
            return found(NOTHING);
        }
        Rules rules = new Rules();
        if (rules.readAll(new Reader(text)) == NONE) {
            return STATE;
        }
        if (lacksLaws(rules)) {
            return found(NOTHING);
        }
        fill(ranking, rules);
        if (oneOfEach) {
            ranking.keepBestOfEach(theMarks);
        }
        return 0;
    }

    /** Ranks one MARK of each PERSON by the RULES of two TEXTS; 0, or what it is refused by. */
    private int rankBoth(int t, int other) {
        Text text = textAt(t);
        Text otherText = textAt(other);
        if (text == null || otherText == null) {
            return BAD;
        }
        if (text.isMissing() || otherText.isMissing()) {
            return found(NOTHING);
        }
        Rules rules = new Rules();
        Rules otherRules = new Rules();
        if (rules.readAll(new Reader(text)) == NONE || otherRules.readAll(new Reader(otherText)) == NONE) {
            return STATE;
        }
        if (lacksLaws(rules) || lacksLaws(otherRules)) {
            return found(NOTHING);
        }
        fill(ranking, rules);
        ranking.keepBestOfEach(theMarks);
        fill(otherRanking, otherRules);
        otherRanking.keepBestOfEach(theMarks);
        return 0;
    }

    private boolean lacksLaws(Rules rules) {
        return rules.homeCounts && theLaws[0] == null;
    }

    private void fill(Ranking into, Rules rules) {
        Laws laws = rules.homeCounts ? theLaws[0] : null;
        into.size = 0;
        for (int m = 0; m < marksTold; m++) {
            Mark mark = theMarks[m];
            if (rules.let(mark)) {
                into.add(m, laws == null ? mark.value : laws.valueAtHome(mark));
            }
        }
    }

    private int marksWithoutWind(int p) {
        int many = 0;
        for (int m = 0; m < marksTold; m++) {
            many += theMarks[m].place == p && theMarks[m].wind == NONE ? 1 : 0;
        }
        return many;
    }

    private int marksHelped() {
        int many = 0;
        for (int m = 0; m < marksTold; m++) {
            many += theMarks[m].isHelped() ? 1 : 0;
        }
        return many;
    }

    private int marksStruck() {
        int many = 0;
        for (int m = 0; m < marksTold; m++) {
            many += theMarks[m].kind == STRUCK ? 1 : 0;
        }
        return many;
    }

    private static int stripsThere(Strip[] strips) {
        int many = 0;
        for (int i = 0; i < strips.length; i++) {
            many += strips[i].isMissing() ? 0 : 1;
        }
        return many;
    }

    private int lawsThere() {
        int many = 0;
        for (int l = 0; l < LAWS; l++) {
            many += theLaws[l] == null ? 0 : 1;
        }
        return many;
    }

    /** What ROWS and TEXTS share. Their cells are made once, and used again when one begins anew. */
    private abstract static class Strip {
        int size = -1;

        abstract int cell(int i);

        final boolean isMissing() {
            return size < 0;
        }

        final boolean has(int i) {
            return i >= 0 && i < size;
        }

        /** Whether n places stand from place i on; written so that no sum can overflow. */
        final boolean hasRun(int i, int n) {
            return i >= 0 && n >= 0 && i <= size - n;
        }

        final long mixInto(long digest) {
            long h = 31 * digest + size;
            for (int i = 0; i < size; i++) {
                h = 31 * h + cell(i);
            }
            return h;
        }
    }

    private static final class Row extends Strip {
        final int[] cells = new int[LONGEST];

        int cell(int i) {
            return has(i) ? cells[i] : 0;
        }

        void begin(int n) {
            size = n;
            Arrays.fill(cells, 0);
        }

        long sum() {
            long sum = 0;
            for (int i = 0; i < size; i++) {
                sum += cell(i);
            }
            return sum;
        }
    }

    private static final class Text extends Strip {
        final byte[] signs = new byte[LONGEST];

        int cell(int i) {
            return has(i) ? signs[i] : 0;
        }

        void begin(int n) {
            size = n;
            Arrays.fill(signs, (byte) ' ');
        }
    }

    private static final class Place {
        final int height;
        final int heat;
        final int floor;
        final int land;

        Place(int height, int heat, int floor, int land) {
            this.height = height;
            this.heat = heat;
            this.floor = floor;
            this.land = land;
        }

        int part(int what) {
            switch (what) {
                case 0:
                    return height;
                case 1:
                    return heat;
                case 2:
                    return floor;
                default:
                    return land;
            }
        }

        long mixInto(long digest) {
            long h = digest;
            for (int what = 0; what <= 3; what++) {
                h = 31 * h + part(what);
            }
            return h;
        }
    }

    private static final class Mark {
        final int person;
        final int place;
        final Place where;
        final int day;
        final int value;
        final int wind;
        final int shoe;
        int kind;
        /** By how much it was HELPED or SHORT; 0 for the other KINDS, which lose nothing on the way home. */
        int much;
        /** What its own KIND tells. */
        int ownTale;

        Mark(int person, int place, Place where, int day, int value, int wind, int shoe) {
            this.person = person;
            this.place = place;
            this.where = where;
            this.day = day;
            this.value = value;
            this.wind = wind;
            this.shoe = shoe;
        }

        void turnInto(int newKind, int by, int tale) {
            kind = newKind;
            much = by;
            ownTale = tale;
        }

        boolean isHelped() {
            return kind == HELPED || kind == GAUGED || kind == LATER;
        }

        int part(int what) {
            switch (what) {
                case 0:
                    return kind;
                case 1:
                    return person;
                case 2:
                    return place;
                case 3:
                    return day;
                case 4:
                    return value;
                case 5:
                    return wind;
                default:
                    return shoe;
            }
        }

        int measure(int which) {
            switch (which) {
                case WIND:
                    return wind;
                case HEIGHT:
                    return where.height;
                case HEAT:
                    return where.heat;
                case FLOOR:
                    return where.floor;
                default:
                    return shoe;
            }
        }

        long mixInto(long digest) {
            long h = digest;
            for (int what = 0; what <= 6; what++) {
                h = 31 * h + part(what);
            }
            return 31 * h + ownTale;
        }
    }

    /** Goes along a TEXT; where something can't be read it rests, so that its place is the FAULT. */
    private static final class Reader {
        private final byte[] signs;
        private final int size;
        int at;

        Reader(Text text) {
            signs = text.signs;
            size = text.size;
        }

        boolean endsBehindBlanks() {
            while (at < size && signs[at] == ' ') {
                at++;
            }
            return at >= size;
        }

        boolean passes(char wanted) {
            if (at >= size || signs[at] != wanted) {
                return false;
            }
            at++;
            return true;
        }

        /** A number of so many figures at most; NONE: there is none. */
        int figures(int most) {
            int behind = Math.min(at + most, size);
            int from = at;
            int n = 0;
            while (at < behind && signs[at] >= '0' && signs[at] <= '9') {
                n = 10 * n + signs[at] - '0';
                at++;
            }
            return at > from ? n : NONE;
        }

        /** A number of one or two figures, perhaps below 0; NONE: there is none. */
        int signedFigures() {
            boolean below = passes('-');
            int n = figures(2);
            return n == NONE || !below ? n : -n;
        }

        /** A SHOE by one figure; NONE: there is none, and a greater figure is not passed. */
        int shoeFigure() {
            if (at >= size || signs[at] < '0' || signs[at] >= '0' + SHOES) {
                return NONE;
            }
            at++;
            return signs[at - 1] - '0';
        }
    }

    /** What the items of a TEXT say together. */
    private abstract static class Items {
        /** Whether an item could be read; if not, the reader rests at the FAULT. */
        abstract boolean readItem(Reader reader);

        /** How many items a TEXT has; NONE: the reader rests at a FAULT. */
        final int readAll(Reader reader) {
            // Every item takes a place at least, so there are no more of them than places.
            for (int items = 0; items <= LONGEST; items++) {
                if (reader.endsBehindBlanks()) {
                    return items;
                }
                if (!readItem(reader)) {
                    return NONE;
                }
            }
            return NONE;
        }
    }

    private static final class Laws extends Items {
        static final int NUMBERS = 10;
        static final int WIND_ITEM = 0, HEIGHT_ITEM = 2, HEAT_ITEM = 4, FLOOR_ITEM = 5, SHOE_ITEM = 6;

        final int[] numbers = new int[NUMBERS];

        boolean readItem(Reader reader) {
            if (reader.passes('W')) {
                return readFalling(reader, WIND_ITEM);
            }
            if (reader.passes('H')) {
                return readFalling(reader, HEIGHT_ITEM);
            }
            if (reader.passes('T')) {
                return readSingle(reader, HEAT_ITEM);
            }
            if (reader.passes('F')) {
                return readSingle(reader, FLOOR_ITEM);
            }
            return reader.passes('S') && readShoe(reader);
        }

        private boolean readFalling(Reader reader, int item) {
            numbers[item] = reader.signedFigures();
            if (numbers[item] == NONE || !reader.passes(',')) {
                return false;
            }
            numbers[item + 1] = reader.signedFigures();
            return numbers[item + 1] > 0;
        }

        private boolean readSingle(Reader reader, int item) {
            numbers[item] = reader.signedFigures();
            return numbers[item] != NONE;
        }

        private boolean readShoe(Reader reader) {
            int shoe = reader.shoeFigure();
            if (shoe == NONE || !reader.passes(':')) {
                return false;
            }
            numbers[SHOE_ITEM + shoe] = reader.signedFigures();
            return numbers[SHOE_ITEM + shoe] != NONE;
        }

        /** What the first so many tenths of WIND, or of HEIGHT, give together. */
        private int stepsGiven(int item, int many) {
            int slowness = numbers[item + 1];
            int given = 0;
            for (int k = 1; k <= many && slowness > 0; k++) {
                given += numbers[item] - k / slowness;
            }
            return given;
        }

        private int windGiven(int wind) {
            if (wind == NONE) {
                return 0;
            }
            return wind < 0 ? wind * numbers[WIND_ITEM] : stepsGiven(WIND_ITEM, wind);
        }

        int allGiven(Mark mark) {
            Place where = mark.where;
            return windGiven(mark.wind)
                    + stepsGiven(HEIGHT_ITEM, where.height)
                    + (where.heat - 20) * numbers[HEAT_ITEM]
                    + where.floor * numbers[FLOOR_ITEM]
                    + numbers[SHOE_ITEM + mark.shoe];
        }

        int valueAtHome(Mark mark) {
            return mark.value - allGiven(mark) - mark.much;
        }

        int leastAtHome(Mark mark) {
            int still = valueAtHome(mark);
            int least = still;
            for (int wind = 1; mark.wind == NONE && wind <= 20; wind++) {
                least = Math.min(least, still - windGiven(wind));
            }
            return least;
        }

        int greatestAtHome(Mark mark) {
            int still = valueAtHome(mark);
            int greatest = still;
            for (int wind = 1; mark.wind == NONE && wind <= 20; wind++) {
                greatest = Math.max(greatest, still - windGiven(wind));
            }
            return greatest;
        }

        int firstBelowNought(int item, int last) {
            int slowness = numbers[item + 1];
            for (int k = 1; k <= last && slowness > 0; k++) {
                if (numbers[item] < k / slowness) {
                    return k;
                }
            }
            return NONE;
        }

        long mixInto(long digest) {
            long h = digest;
            for (int which = 0; which < NUMBERS; which++) {
                h = 31 * h + numbers[which];
            }
            return h;
        }
    }

    private static final class Rules extends Items {
        boolean windGauged;
        int mostWind = GREATEST_WIND;
        int mostHeight = GREATEST_HEIGHT;
        int shoesOut;
        int firstYear;
        boolean struckOut;
        boolean laterOut;
        boolean shortOut;
        boolean homeCounts;

        boolean readItem(Reader reader) {
            if (reader.passes('w')) {
                return readWind(reader.figures(2));
            }
            if (reader.passes('h')) {
                return readHeight(reader.figures(2));
            }
            if (reader.passes('y')) {
                return readYear(reader.figures(2));
            }
            if (reader.passes('s')) {
                return readShoe(reader.figures(1));
            }
            return readBare(reader);
        }

        private boolean readWind(int n) {
            if (n == NONE) {
                return false;
            }
            windGauged = true;
            mostWind = Math.min(mostWind, n);
            return true;
        }

        private boolean readHeight(int n) {
            if (n == NONE) {
                return false;
            }
            mostHeight = Math.min(mostHeight, n);
            return true;
        }

        private boolean readYear(int n) {
            if (n == NONE) {
                return false;
            }
            firstYear = Math.max(firstYear, n);
            return true;
        }

        private boolean readShoe(int k) {
            if (!within(k, 0, SHOES - 1)) {
                return false;
            }
            shoesOut |= 1 << k;
            return true;
        }

        private boolean readBare(Reader reader) {
            if (reader.passes('k')) {
                struckOut = true;
                return true;
            }
            if (reader.passes('d')) {
                laterOut = true;
                return true;
            }
            if (reader.passes('t')) {
                shortOut = true;
                return true;
            }
            if (reader.passes('v')) {
                homeCounts = true;
                return true;
            }
            return false;
        }

        boolean let(Mark mark) {
            if (windGauged && (mark.wind == NONE || mark.wind > mostWind)) {
                return false;
            }
            if (mark.where.height > mostHeight || mark.day / YEAR < firstYear) {
                return false;
            }
            if ((shoesOut >> mark.shoe & 1) == 1) {
                return false;
            }
            return !(struckOut && mark.kind == STRUCK)
                    && !(laterOut && mark.kind == LATER)
                    && !(shortOut && mark.kind == SHORT);
        }
    }

    /** MARKS in order, the greatest first; made once, and used again by every call that ranks. */
    private static final class Ranking {
        /** The seat of one who has none: behind all. */
        static final int NO_SEAT = 99;

        final int[] who = new int[MARKS];
        final int[] worth = new int[MARKS];
        final int[] seats = new int[PERSONS];
        int size;

        /** MARKS come in the order of their numbers: one goes behind those that are alike. */
        void add(int mark, int counts) {
            if (size >= MARKS) {
                return;
            }
            int at = size;
            while (at > 0 && worth[at - 1] < counts) {
                who[at] = who[at - 1];
                worth[at] = worth[at - 1];
                at--;
            }
            who[at] = mark;
            worth[at] = counts;
            size++;
        }

        /** Leaves the first of each PERSON: the best one, and of alike ones that told first. */
        void keepBestOfEach(Mark[] marks) {
            Arrays.fill(seats, NO_SEAT);
            int kept = 0;
            for (int i = 0; i < size; i++) {
                int person = marks[who[i]].person;
                if (seats[person] == NO_SEAT) {
                    seats[person] = kept;
                    who[kept] = who[i];
                    worth[kept] = worth[i];
                    kept++;
                }
            }
            size = kept;
        }
    }
}
