/** Calls by their names, and how ThinAir is held against the Model behind each. */
final class Calls {
    static final String[] NAMES = {"row", "lay", "tear", "copy", "mean", "text", "put", "later", "place",
        "mark", "marks", "help", "paper", "cut", "strike", "told", "tells", "about", "fault", "laws", "number",
        "gives", "home", "span", "sure", "turns", "pairs", "learn", "just", "list", "listed", "gains", "far", "fall",
        "crowd", "next", "count", "findings", "digest"};

    private Calls() { }

    /** A call by its name. */
    static long answer(ThinAir x, String name, int[] a) {
        switch (name) {
            case "row": return x.row(a[0], a[1]);
            case "lay": return x.lay(a[0], a[1], a[2]);
            case "tear": return x.tear(a[0]);
            case "copy": return x.copy(a[0], a[1], a[2], a[3], a[4]);
            case "mean": return x.mean(a[0]);
            case "text": return x.text(a[0], a[1]);
            case "put": return x.put(a[0], a[1], a[2]);
            case "later": return x.later(a[0]);
            case "place": return x.place(a[0], a[1], a[2], a[3]);
            case "mark": return x.mark(a[0], a[1], a[2], a[3], a[4]);
            case "marks": return x.marks(a[0], a[1], a[2]);
            case "help": return x.help(a[0], a[1], a[2]);
            case "paper": return x.paper(a[0], a[1]);
            case "cut": return x.cut(a[0], a[1]);
            case "strike": return x.strike(a[0], a[1]);
            case "told": return x.told(a[0], a[1]);
            case "tells": return x.tells(a[0], a[1]);
            case "about": return x.about(a[0], a[1]);
            case "fault": return x.fault(a[0], a[1] != 0);
            case "laws": return x.laws(a[0], a[1]);
            case "number": return x.number(a[0], a[1]);
            case "gives": return x.gives(a[0], a[1]);
            case "home": return x.home(a[0], a[1]);
            case "span": return x.span(a[0], a[1]);
            case "sure": return x.sure(a[0], a[1], a[2]);
            case "turns": return x.turns(a[0], a[1]);
            case "pairs": return x.pairs(a[0]);
            case "learn": return x.learn(a[0]);
            case "just": return x.just(a[0]);
            case "list": return x.list(a[0]);
            case "listed": return x.listed(a[0], a[1]);
            case "gains": return x.gains(a[0], a[1]);
            case "far": return x.far(a[0]);
            case "fall": return x.fall(a[0], a[1]);
            case "crowd": return x.crowd(a[0], a[1], a[2], a[3]);
            case "next": return x.next();
            case "count": return x.count(a[0]);
            case "findings": return x.findings(a[0]);
            case "digest": return x.digest();
            default: throw new IllegalStateException(name);
        }
    }

    /** What is not as the Model's behind a call; null: nothing. */
    static String unlike(ThinAir x, Model model, long got, long want) {
        String unlike = got != want ? "answered " + got + ", the model " + want
            : x.asked() != model.asked ? "asked() " + x.asked() + ", the model's " + model.asked
            : x.upper() != model.upper.longValueExact() ? "upper() " + x.upper() + ", the model's " + model.upper
            : x.lower() != model.lower.longValueExact() ? "lower() " + x.lower() + ", the model's " + model.lower
            : x.finding() != model.finding ? "finding() " + x.finding() + ", the model's " + model.finding
            : x.digest() != model.digest() ? "digest()" : null;
        for (int f = 1; f <= 5 && unlike == null; f++) {
            unlike = x.findings(f) != model.findings(f) ? "findings(" + f + ")" : null;
        }
        return unlike;
    }
}
