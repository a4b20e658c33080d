import java.util.ArrayList;
import java.util.List;

/**
 * The document once more, written as plainly and slowly as can be: day by day, placing by
 * placing. RandomRunsTest holds HomeFinder against it.
 */
final class Model {
    record Fact(boolean home, int who, int field, int number, int day, int told) { }

    record Paper(int home, int first, int last) { }

    record Need(int first, int last, boolean night) {
        boolean holds(int day) {
            return first <= day && day <= last;
        }
    }

    record Term(String left, char sign, String right) { }

    record Rule(String kind, int number, List<Term> terms) { }

    record Token(String text, int place) { }

    private int today;
    private final List<Integer> groups = new ArrayList<>();
    private final Need[] needs = new Need[7];
    private final List<Integer> bedsOf = new ArrayList<>();
    private final Integer[] closed = new Integer[5];
    private final List<Fact> facts = new ArrayList<>();
    private final List<Paper> papers = new ArrayList<>();
    private List<Rule> rules = new ArrayList<>();
    private final StringBuilder tape = new StringBuilder();
    private final Integer[] placedAt = new Integer[7];
    private int[] figures;

    private static boolean isDay(int day) {
        return day >= 0 && day < 1000;
    }

    private boolean isChild(int child) {
        return child >= 0 && child < groups.size();
    }

    private boolean isHome(int home) {
        return home >= 0 && home < bedsOf.size();
    }

    boolean clock(int day) {
        boolean good = isDay(day) && day >= today;
        today = good ? day : today;
        return good;
    }

    int child(int group) {
        if (groups.size() == 7 || group < 0 || group > 3) {
            return -1;
        }
        groups.add(group);
        return groups.size() - 1;
    }

    int home(int beds) {
        if (bedsOf.size() == 5 || beds < 1 || beds > 6) {
            return -1;
        }
        bedsOf.add(beds);
        return bedsOf.size() - 1;
    }

    int fact(boolean home, int who, int field, int number, int day) {
        boolean good = (home ? isHome(who) : isChild(who)) && field >= 0 && field < 8
                && number >= -999 && number <= 9999 && isDay(day) && facts.size() < 100;
        if (!good) {
            return -1;
        }
        facts.add(new Fact(home, who, field, number, day, today));
        return facts.size();
    }

    int value(boolean home, int who, int field, int day, int known) {
        boolean good = (home ? isHome(who) : isChild(who)) && field >= 0 && field < 8
                && isDay(day) && isDay(known);
        return good ? number(home, who, field, day, known) : -1000;
    }

    private int number(boolean home, int who, int field, int day, int known) {
        for (int from = day; from >= 0; from--) {
            for (int i = facts.size() - 1; i >= 0; i--) {
                Fact f = facts.get(i);
                if (f.home == home && f.who == who && f.field == field && f.day == from
                        && f.told <= known) {
                    return f.number;
                }
            }
        }
        return 0;
    }

    int paper(int home, int first, int last) {
        if (!isHome(home) || !isDay(first) || !isDay(last) || last < first || papers.size() == 30) {
            return -1;
        }
        papers.add(new Paper(home, first, last));
        return papers.size() - 1;
    }

    int until(int home, int day) {
        int latest = -1;
        if (isHome(home) && isDay(day)) {
            for (Paper p : papers) {
                if (p.home == home && p.first <= day && day <= p.last && p.last > latest) {
                    latest = p.last;
                }
            }
        }
        return latest;
    }

    boolean close(int home, int day) {
        if (!isHome(home) || !(day == -1 || isDay(day))) {
            return false;
        }
        closed[home] = day == -1 ? null : (Integer) day;
        return true;
    }

    boolean need(int child, int first, int last, boolean night) {
        if (!isChild(child) || !isDay(first) || !isDay(last) || last < first || last > first + 59) {
            return false;
        }
        needs[child] = new Need(first, last, night);
        return true;
    }

    boolean ends(int child) {
        boolean had = isChild(child) && needs[child] != null;
        if (had) {
            needs[child] = null;
        }
        return had;
    }

    int feed(int a, int b, int c, int d, int e) {
        if (tape.length() > 480) {
            return -1;
        }
        for (int number : new int[] {a, b, c, d, e}) {
            tape.append((char) (number >>> 24)).append((char) (number >>> 16 & 0xff))
                    .append((char) (number >>> 8 & 0xff)).append((char) (number & 0xff));
        }
        return tape.length();
    }

    int end(int n) {
        if (n < 0 || n > tape.length()) {
            return -1;
        }
        tape.setLength(n);
        return n;
    }

    /** A text's fault, by a machine of states over a list of tokens; -1 without one. */
    static int parse(String text, List<Rule> into) {
        List<Token> tokens = tokens(text);
        if (tokens.size() == 1) {
            return -1;
        }
        String state = "rule";
        String kind = "";
        int number = 0;
        String left = "";
        char sign = ' ';
        List<Term> terms = new ArrayList<>();
        for (Token t : tokens) {
            String w = t.text;
            int fault = 1 + 8 * t.place;
            boolean digits = w.matches("[0-9]+");
            boolean side = digits || w.matches("[ch][0-7]");
            switch (state) {
                case "rule":
                    if (!w.matches("must|night|wish")) {
                        return fault;
                    }
                    if (into.size() == 20) {
                        return fault + 2;
                    }
                    kind = w;
                    number = 0;
                    terms = new ArrayList<>();
                    state = w.equals("wish") ? "number" : "left";
                    break;
                case "number":
                    if (!digits) {
                        return fault;
                    }
                    if (w.length() > 4 || Integer.parseInt(w) < 1 || Integer.parseInt(w) > 100) {
                        return fault + 1;
                    }
                    number = Integer.parseInt(w);
                    state = "left";
                    break;
                case "left":
                case "right":
                    if (!side) {
                        return fault;
                    }
                    if (digits && w.length() > 4) {
                        return fault + 1;
                    }
                    if (state.equals("left") && terms.size() == 6) {
                        return fault + 2;
                    }
                    if (state.equals("left")) {
                        left = w;
                        state = "sign";
                    } else {
                        terms.add(new Term(left, sign, w));
                        state = "behind";
                    }
                    break;
                case "sign":
                    if (!w.matches("[<>=]")) {
                        return fault;
                    }
                    sign = w.charAt(0);
                    state = "right";
                    break;
                default:
                    if (w.equals("and")) {
                        state = "left";
                    } else if (w.equals(";") || w.isEmpty()) {
                        into.add(new Rule(kind, number, terms));
                        state = "rule";
                        if (w.isEmpty()) {
                            return -1;
                        }
                    } else {
                        return fault;
                    }
            }
        }
        throw new IllegalStateException("the end is a token, so this is not reached");
    }

    /** Words and single bytes; last an empty one for the end. */
    private static List<Token> tokens(String text) {
        List<Token> tokens = new ArrayList<>();
        java.util.regex.Matcher m = java.util.regex.Pattern
                .compile("[a-z0-9]+|[^ ]", java.util.regex.Pattern.DOTALL).matcher(text);
        while (m.find()) {
            tokens.add(new Token(m.group(), m.start()));
        }
        tokens.add(new Token("", text.length()));
        return tokens;
    }

    int rules() {
        String text = tape.toString();
        tape.setLength(0);
        List<Rule> read = new ArrayList<>();
        int fault = parse(text, read);
        if (fault != -1) {
            return -2 - fault;
        }
        rules = read;
        return rules.size();
    }

    private int side(String side, int child, int home, int day) {
        char first = side.charAt(0);
        if (first == 'c' || first == 'h') {
            int who = first == 'h' ? home : child;
            return number(first == 'h', who, side.charAt(1) - '0', day, today);
        }
        return Integer.parseInt(side);
    }

    private boolean isSo(Rule rule, int child, int home, int day) {
        for (Term t : rule.terms) {
            int left = side(t.left, child, home, day);
            int right = side(t.right, child, home, day);
            boolean so = t.sign == '<' ? left < right : t.sign == '>' ? left > right : left == right;
            if (!so) {
                return false;
            }
        }
        return true;
    }

    /** What bars, and the day; null without child, home or need. */
    private int[] bar(int child, int home) {
        if (!isChild(child) || !isHome(home) || needs[child] == null) {
            return null;
        }
        String kind = needs[child].night ? "night" : "must";
        for (int day = needs[child].first; day <= needs[child].last; day++) {
            if (closed[home] != null && closed[home] <= day) {
                return new int[] {1, day};
            }
            if (until(home, day) == -1) {
                return new int[] {2, day};
            }
            for (int k = 0; k < rules.size(); k++) {
                if (rules.get(k).kind.equals(kind) && !isSo(rules.get(k), child, home, day)) {
                    return new int[] {10 + k, day};
                }
            }
        }
        return new int[] {0, -1};
    }

    int bars(int child, int home) {
        int[] bar = bar(child, home);
        return bar == null ? -1 : bar[0];
    }

    int barred(int child, int home) {
        int[] bar = bar(child, home);
        return bar == null ? -1 : bar[1];
    }

    int wish(int child, int home) {
        if (!isChild(child) || !isHome(home) || needs[child] == null) {
            return -1;
        }
        int sum = 0;
        for (Rule rule : rules) {
            if (rule.kind.equals("wish") && isSo(rule, child, home, needs[child].first)) {
                sum += rule.number;
            }
        }
        return sum;
    }

    int place(boolean keep) {
        int children = groups.size();
        int options = bedsOf.size() + 1;
        boolean[][] fits = new boolean[children][options];
        int[][] wishes = new int[children][options];
        for (int c = 0; c < children; c++) {
            fits[c][options - 1] = true;
            for (int h = 0; h < options - 1; h++) {
                fits[c][h] = bars(c, h) == 0;
                wishes[c][h] = wish(c, h);
            }
        }
        int total = 1;
        for (int c = 0; c < children; c++) {
            total *= options;
        }
        int[] best = null;
        int[] bestFigures = null;
        int[] homes = new int[children];
        for (int code = 0; code < total; code++) {
            boolean good = true;
            for (int c = children - 1, rest = code; c >= 0; c--, rest /= options) {
                homes[c] = rest % options;
                good &= fits[c][homes[c]];
            }
            if (good && bedsSuffice(homes, options - 1)) {
                int[] now = figures(homes, options - 1, wishes);
                if (best == null || better(now, bestFigures, keep)) {
                    best = homes.clone();
                    bestFigures = now;
                }
            }
        }
        figures = bestFigures;
        for (int c = 0; c < children; c++) {
            placedAt[c] = best[c] == options - 1 ? null : (Integer) best[c];
        }
        return figures[1];
    }

    private boolean bedsSuffice(int[] homes, int none) {
        int[] taken = new int[none * 1000];
        for (int c = 0; c < homes.length; c++) {
            if (homes[c] != none) {
                for (int day = needs[c].first; day <= needs[c].last; day++) {
                    if (++taken[homes[c] * 1000 + day] > bedsOf.get(homes[c])) {
                        return false;
                    }
                }
            }
        }
        return true;
    }

    private int[] figures(int[] homes, int none, int[][] wishes) {
        int[] f = new int[5];
        boolean[] parted = new boolean[4];
        for (int c = 0; c < homes.length; c++) {
            if (needs[c] == null) {
                continue;
            }
            f[0]++;
            f[1] += homes[c] == none ? 1 : 0;
            f[3] += placedAt[c] != null && placedAt[c] != homes[c] ? 1 : 0;
            f[4] += homes[c] == none ? 0 : wishes[c][homes[c]];
            for (int other = 0; other < c; other++) {
                if (groups.get(c) != 0 && groups.get(c).equals(groups.get(other))
                        && homes[c] != none && homes[other] != none && homes[c] != homes[other]) {
                    parted[groups.get(c)] = true;
                }
            }
        }
        for (boolean p : parted) {
            f[2] += p ? 1 : 0;
        }
        return f;
    }

    private static boolean better(int[] a, int[] b, boolean keep) {
        if (a[1] != b[1]) {
            return a[1] < b[1];
        }
        if (a[2] != b[2]) {
            return a[2] < b[2];
        }
        if (keep && a[3] != b[3]) {
            return a[3] < b[3];
        }
        return a[4] > b[4];
    }

    int at(int child) {
        return isChild(child) && placedAt[child] != null ? placedAt[child] : -1;
    }

    int placed(int what) {
        return figures == null || what < 0 || what > 4 ? -1 : figures[what];
    }

    int beds(int home, int day) {
        if (!isHome(home) || !isDay(day)) {
            return -1;
        }
        int n = 0;
        for (int c = 0; c < groups.size(); c++) {
            n += at(c) == home && needs[c] != null && needs[c].holds(day) ? 1 : 0;
        }
        return n;
    }

    private List<Integer> reviewDays(int child) {
        List<Integer> days = new ArrayList<>();
        if (at(child) != -1 && needs[child] != null) {
            for (int day = needs[child].first; day <= needs[child].last; day++) {
                int behind = day - needs[child].first;
                if (behind == 7 || (behind >= 28 && (behind - 28) % 90 == 0)) {
                    days.add(day);
                }
            }
        }
        return days;
    }

    int review(int child, int k) {
        List<Integer> days = reviewDays(child);
        return k >= 0 && k < days.size() ? days.get(k) : -1;
    }

    int reviews(int day) {
        if (!isDay(day)) {
            return -1;
        }
        int n = 0;
        for (int c = 0; c < groups.size(); c++) {
            for (int d : reviewDays(c)) {
                n += d == day ? 1 : 0;
            }
        }
        return n;
    }

    int count(int what) {
        int[] all = {groups.size(), bedsOf.size(), facts.size(), papers.size(), rules.size(),
            today, tape.length()};
        return what >= 0 && what < all.length ? all[what] : -1;
    }
}
