import java.util.Random;

/** Runs of calls drawn by chance (with fixed seeds), each answer held against the plain model's. */
public final class RandomRunsTest {
    private static final int RUNS = 400;
    /** An object is used for 512 calls; the dearest step, a text of 500 bytes, makes 27. */
    private static final int CALLS = 512 - 27;
    private static final int STEPS = 2000;

    private final Check check;
    private final Random random;
    private final int run;
    private final HomeFinder desk = new HomeFinder();
    private final Model model = new Model();
    /** Brute force over seven children and five homes is slow: few of these are made. */
    private int placingsLeft;
    private int calls;

    private RandomRunsTest(Check check, int run) {
        this.check = check;
        this.run = run;
        this.random = new Random(run);
    }

    public static void main(String[] args) {
        Check check = new Check();
        for (int run = 1; run <= RUNS; run++) {
            new RandomRunsTest(check, run).go();
        }
        for (int seed = 1; seed <= 20000; seed++) {
            compareTexts(check, new Random(seed));
        }
        check.finish();
    }

    /** Reads one text on a new desk, so that texts of all kinds and lengths are met. */
    private static void compareTexts(Check check, Random random) {
        String text = text(random);
        HomeFinder desk = new HomeFinder();
        java.util.List<Model.Rule> rules = new java.util.ArrayList<>();
        int fault = Model.parse(text, rules);
        check.due("rules() of '" + text + "'", Check.read(desk, text),
                fault == -1 ? rules.size() : -2 - fault);
    }

    private void due(String call, int got, int want) {
        calls++;
        check.due("run " + run + ": " + call, got, want);
    }

    private void due(String call, boolean got, boolean want) {
        calls++;
        check.due("run " + run + ": " + call, got, want);
    }

    private int upTo(int bound) {
        return random.nextInt(bound);
    }

    /** Mostly a number from 0 to below the bound, at times one at its edges or far off. */
    private int about(int bound) {
        int chance = upTo(60);
        if (chance == 0) {
            return -1;
        }
        if (chance == 1) {
            return bound;
        }
        if (chance == 2) {
            return new int[] {Integer.MIN_VALUE, Integer.MAX_VALUE, -2, bound + 1}[upTo(4)];
        }
        return upTo(bound);
    }

    /** Mostly a day of a narrow time, so that days meet. */
    private int day() {
        int chance = upTo(40);
        if (chance == 0) {
            return about(1000);
        }
        return chance == 1 ? 990 + upTo(12) : 100 + upTo(70);
    }

    private void go() {
        int homes = 1 + upTo(5);
        int children = 1 + upTo(7);
        placingsLeft = homes * children > 24 ? 4 : 20;
        for (int i = 0; i < homes; i++) {
            home(upTo(3) == 0 ? 1 + upTo(6) : 1 + upTo(2));
            paper(i, upTo(110), 140 + upTo(100));
        }
        for (int i = 0; i < children; i++) {
            child(upTo(4));
            need(i, 100 + upTo(30), 110 + upTo(40), upTo(3) == 0);
        }
        if (upTo(4) != 0) {
            readText(goodText(random));
        }
        for (int step = 0; step < STEPS && calls <= CALLS; step++) {
            call(upTo(100));
        }
    }

    private void call(int kind) {
        if (kind < 3) {
            int day = upTo(3) == 0 ? about(1000) % 300 : model.count(5) + upTo(4) - 1;
            due("clock(" + day + ")", desk.clock(day), model.clock(day));
        } else if (kind < 5) {
            seldom();
        } else if (kind < 20) {
            fact();
        } else if (kind < 25) {
            value();
        } else if (kind < 28) {
            paper(about(model.count(1) + 1), day(), day());
        } else if (kind < 31) {
            int home = about(5);
            int day = day();
            due("until(" + home + ", " + day + ")", desk.until(home, day), model.until(home, day));
        } else if (kind < 34) {
            int home = about(5);
            int day = upTo(2) == 0 ? -1 : day() + upTo(40);
            due("close(" + home + ", " + day + ")", desk.close(home, day), model.close(home, day));
        } else if (kind < 42) {
            need(about(7), day(), day(), upTo(3) == 0);
        } else if (kind < 44) {
            int child = about(7);
            due("ends(" + child + ")", desk.ends(child), model.ends(child));
        } else if (kind < 47) {
            readText(upTo(3) == 0 ? text(random) : goodText(random));
        } else if (kind < 65) {
            pair();
        } else if (kind < 75) {
            place(upTo(2) == 0);
        } else {
            look();
        }
    }

    private void seldom() {
        int chance = upTo(6);
        if (chance == 0) {
            child(about(4));
        } else if (chance == 1) {
            home(about(7));
        } else if (chance == 2) {
            int[] n = {random.nextInt(), random.nextInt(), random.nextInt()};
            due("feed", desk.feed(n[0], n[1], n[2], 0, -1), model.feed(n[0], n[1], n[2], 0, -1));
        } else if (chance == 3) {
            int n = about(model.count(6) + 1);
            due("end(" + n + ")", desk.end(n), model.end(n));
        } else {
            due("rules()", desk.rules(), model.rules());
        }
    }

    private void child(int group) {
        due("child(" + group + ")", desk.child(group), model.child(group));
    }

    private void home(int beds) {
        due("home(" + beds + ")", desk.home(beds), model.home(beds));
    }

    private void paper(int home, int first, int last) {
        due("paper(" + home + ", " + first + ", " + last + ")",
                desk.paper(home, first, last), model.paper(home, first, last));
    }

    private void need(int child, int first, int last, boolean night) {
        due("need(" + child + ", " + first + ", " + last + ", " + night + ")",
                desk.need(child, first, last, night), model.need(child, first, last, night));
    }

    private void fact() {
        boolean home = random.nextBoolean();
        int who = about(home ? 5 : 7);
        int field = upTo(4) == 0 ? about(8) : upTo(3);
        int number = upTo(20) == 0 ? new int[] {-1000, -999, 9999, 10000}[upTo(4)] : upTo(3);
        int day = upTo(3) == 0 ? 0 : day();
        due("fact(" + home + ", " + who + ", " + field + ", " + number + ", " + day + ")",
                desk.fact(home, who, field, number, day),
                model.fact(home, who, field, number, day));
    }

    private void value() {
        boolean home = random.nextBoolean();
        int who = about(home ? 5 : 7);
        int field = upTo(4) == 0 ? about(8) : upTo(3);
        int day = day();
        int known = upTo(3) == 0 ? about(1000) : model.count(5) - upTo(5);
        due("value(" + home + ", " + who + ", " + field + ", " + day + ", " + known + ")",
                desk.value(home, who, field, day, known),
                model.value(home, who, field, day, known));
    }

    private void pair() {
        int child = about(7);
        int home = about(5);
        String pair = "(" + child + ", " + home + ")";
        int kind = upTo(3);
        if (kind == 0) {
            due("bars" + pair, desk.bars(child, home), model.bars(child, home));
        } else if (kind == 1) {
            due("barred" + pair, desk.barred(child, home), model.barred(child, home));
        } else {
            due("wish" + pair, desk.wish(child, home), model.wish(child, home));
        }
    }

    private void place(boolean keep) {
        if (placingsLeft == 0) {
            return;
        }
        placingsLeft--;
        due("place(" + keep + ")", desk.place(keep), model.place(keep));
        for (int child = 0; child < 7; child++) {
            due("at(" + child + ")", desk.at(child), model.at(child));
        }
        for (int what = 0; what < 5; what++) {
            due("placed(" + what + ")", desk.placed(what), model.placed(what));
        }
    }

    private void look() {
        int kind = upTo(6);
        int child = about(7);
        int day = day();
        if (kind == 0) {
            due("at(" + child + ")", desk.at(child), model.at(child));
        } else if (kind == 1) {
            int what = about(5);
            due("placed(" + what + ")", desk.placed(what), model.placed(what));
        } else if (kind == 2) {
            int home = about(5);
            due("beds(" + home + ", " + day + ")", desk.beds(home, day), model.beds(home, day));
        } else if (kind == 3) {
            int k = about(3);
            due("review(" + child + ", " + k + ")", desk.review(child, k), model.review(child, k));
        } else if (kind == 4) {
            due("reviews(" + day + ")", desk.reviews(day), model.reviews(day));
        } else {
            int what = about(7);
            due("count(" + what + ")", desk.count(what), model.count(what));
        }
    }

    private void readText(String text) {
        int had = model.count(6);
        for (int from = 0; from < text.length(); from += 20) {
            int a = Check.word(text, from);
            int b = Check.word(text, from + 4);
            int c = Check.word(text, from + 8);
            int d = Check.word(text, from + 12);
            int e = Check.word(text, from + 16);
            due("feed", desk.feed(a, b, c, d, e), model.feed(a, b, c, d, e));
        }
        due("end", desk.end(had + text.length()), model.end(had + text.length()));
        due("rules() of '" + text + "'", desk.rules(), model.rules());
    }

    private static String side(Random random) {
        int chance = random.nextInt(10);
        return chance < 4 ? "c" + random.nextInt(3) : chance < 8 ? "h" + random.nextInt(3)
                : "" + random.nextInt(3);
    }

    private static String blanks(Random random) {
        return " ".repeat(random.nextInt(8) == 0 ? random.nextInt(3) : random.nextInt(2));
    }

    /** A text without a fault, of rules that are often so. */
    private static String goodText(Random random) {
        StringBuilder text = new StringBuilder(blanks(random));
        int rules = 1 + random.nextInt(6);
        for (int rule = 0; rule < rules; rule++) {
            int kind = random.nextInt(5);
            text.append(rule == 0 ? "" : ";" + blanks(random));
            text.append(kind == 0 ? "must " : kind == 1 ? "night "
                    : "wish " + (random.nextInt(2) == 0 ? 1 + random.nextInt(100)
                    : 1 + random.nextInt(3)) + " ");
            do {
                text.append(side(random)).append(blanks(random));
                text.append("<>=".charAt(random.nextInt(3))).append(blanks(random));
                text.append(side(random)).append(random.nextInt(4) == 0 ? " and " : "~");
            } while (text.charAt(text.length() - 1) != '~');
            text.setLength(text.length() - 1);
            text.append(blanks(random));
        }
        String made = text.toString();
        return made.length() > 480 || made.split("and").length > 6 ? "wish 7 c0=h0" : made;
    }

    /** A text of any kind: words in an order that is mostly right, at times spoiled. */
    private static String text(Random random) {
        StringBuilder text = new StringBuilder(blanks(random));
        int rules = random.nextInt(3) == 0 ? 18 + random.nextInt(5) : 1 + random.nextInt(4);
        for (int rule = 0; rule < rules; rule++) {
            text.append(rule == 0 ? "" : ";").append(blanks(random));
            text.append(new String[] {"must ", "night ", "wish 9 "}[random.nextInt(3)]);
            int terms = random.nextInt(9) == 0 ? 5 + random.nextInt(4) : 1 + random.nextInt(2);
            for (int term = 0; term < terms; term++) {
                text.append(term == 0 ? "" : " and ").append(side(random));
                text.append("<>=".charAt(random.nextInt(3))).append(side(random));
            }
        }
        String[] odd = {"", " ", ";", "and", "must", "night", "wish", "0", "00012", "12345", "101",
            "c8", "h", "c00", "!", "\0", "\u00ff", "M", "<", "=", "1", "a", "\n", "\u0080"};
        for (int i = random.nextInt(3); i > 0; i--) {
            int from = random.nextInt(text.length() + 1);
            int to = Math.min(text.length(), from + random.nextInt(4));
            text.replace(from, to, odd[random.nextInt(odd.length)]);
        }
        return text.substring(0, Math.min(text.length(), 500));
    }
}
