import java.util.Arrays;

/**
 * A desk that finds homes for children: it keeps what is told of children and homes, reads a text
 * of rules, and places all children at once. All rows are made with the object, none by a call.
 */
public final class HomeFinder {
    public static final int NONE = -1;

    private static final int LAST_DAY = 999;
    private static final int MOST_CHILDREN = 7;
    private static final int LAST_GROUP = 3;
    private static final int MOST_HOMES = 5;
    private static final int MOST_BEDS = 6;
    private static final int FIELDS = 8;
    private static final int LEAST_NUMBER = -999;
    private static final int GREATEST_NUMBER = 9999;
    private static final int NO_NUMBER = -1000;
    private static final int MOST_FACTS = 100;
    private static final int MOST_PAPERS = 30;
    private static final int LONGEST_NEED = 60;
    private static final int MOST_BYTES = 500;
    private static final int BYTES_A_FEED = 20;

    private final Children children;
    private final Homes homes;
    private final Papers papers;
    private final Facts facts;
    private final Tape tape;
    private final RuleBook book;
    private final RuleReader reader;
    private final Judge judge;
    private final Placing latest;
    private final Placer placer;
    private int today;

    public HomeFinder() {
        children = new Children();
        homes = new Homes();
        papers = new Papers();
        facts = new Facts();
        tape = new Tape();
        book = new RuleBook();
        reader = new RuleReader(tape);
        judge = new Judge(children, homes, papers, facts, book);
        latest = new Placing();
        placer = new Placer(children, homes, judge, latest);
        today = 0;
    }

    public boolean clock(int day) {
        if (!isDay(day) || day < today) {
            return false;
        }
        today = day;
        return true;
    }

    public int child(int group) {
        return children.add(group);
    }

    public int home(int beds) {
        return homes.add(beds);
    }

    public int fact(boolean home, int who, int field, int number, int day) {
        boolean told = isThere(home, who) && isField(field) && isDay(day);
        if (!told || number < LEAST_NUMBER || number > GREATEST_NUMBER) {
            return NONE;
        }
        return facts.add(slotOf(home, field), who, number, day, today);
    }

    public int value(boolean home, int who, int field, int day, int known) {
        if (!isThere(home, who) || !isField(field) || !isDay(day) || !isDay(known)) {
            return NO_NUMBER;
        }
        return facts.numberOn(slotOf(home, field), who, day, known);
    }

    public int paper(int home, int first, int last) {
        if (!homes.has(home) || !isDay(first) || !isDay(last) || first > last) {
            return NONE;
        }
        return papers.add(home, first, last);
    }

    public int until(int home, int day) {
        return homes.has(home) && isDay(day) ? papers.latestEnd(home, day) : NONE;
    }

    public boolean close(int home, int day) {
        if (!homes.has(home) || (day != NONE && !isDay(day))) {
            return false;
        }
        homes.closeFrom(home, day);
        return true;
    }

    public boolean need(int child, int first, int last, boolean night) {
        boolean told = children.has(child) && isDay(first) && isDay(last) && first <= last;
        if (!told || last - first + 1 > LONGEST_NEED) {
            return false;
        }
        children.setNeed(child, first, last, night);
        return true;
    }

    public boolean ends(int child) {
        return children.endNeed(child);
    }

    public int feed(int a, int b, int c, int d, int e) {
        if (tape.size() + BYTES_A_FEED > MOST_BYTES) {
            return NONE;
        }
        tape.add(a);
        tape.add(b);
        tape.add(c);
        tape.add(d);
        tape.add(e);
        return tape.size();
    }

    public int end(int n) {
        return tape.cut(n) ? n : NONE;
    }

    public int rules() {
        int fault = reader.read();
        // The tape is empty then, with a fault too: the next text begins anew.
        tape.cut(0);
        if (fault != NONE) {
            return -2 - fault;
        }
        book.takeFrom(reader.draft());
        return book.size();
    }

    public int bars(int child, int home) {
        return judge.findBar(child, home, today);
    }

    public int barred(int child, int home) {
        judge.findBar(child, home, today);
        return judge.barDay();
    }

    public int wish(int child, int home) {
        return judge.wishOf(child, home, today);
    }

    public int place(boolean keep) {
        placer.weigh(keep, today);
        placer.findBest();
        placer.settle();
        return latest.figure(Placing.WITHOUT);
    }

    public int at(int child) {
        return latest.homeOf(child);
    }

    public int placed(int what) {
        return latest.figure(what);
    }

    public int beds(int home, int day) {
        if (!homes.has(home) || !isDay(day)) {
            return NONE;
        }
        int taken = 0;
        for (int child = 0; child < children.size(); child++) {
            if (latest.homeOf(child) == home && children.needsOn(child, day)) {
                taken++;
            }
        }
        return taken;
    }

    public int review(int child, int k) {
        return latest.homeOf(child) == NONE ? NONE : children.reviewDay(child, k);
    }

    public int reviews(int day) {
        if (!isDay(day)) {
            return NONE;
        }
        int found = 0;
        for (int child = 0; child < children.size(); child++) {
            if (latest.homeOf(child) != NONE && children.hasReviewOn(child, day)) {
                found++;
            }
        }
        return found;
    }

    public int count(int what) {
        switch (what) {
            case 0:
                return children.size();
            case 1:
                return homes.size();
            case 2:
                return facts.size();
            case 3:
                return papers.size();
            case 4:
                return book.size();
            case 5:
                return today;
            case 6:
                return tape.size();
            default:
                return NONE;
        }
    }

    private boolean isThere(boolean home, int who) {
        return home ? homes.has(who) : children.has(who);
    }

    private static boolean isDay(int day) {
        return day >= 0 && day <= LAST_DAY;
    }

    private static boolean isField(int field) {
        return field >= 0 && field < FIELDS;
    }

    /** Where a field stands on a sheet: the child's fields first, the home's behind them. */
    private static int slotOf(boolean home, int field) {
        return home ? FIELDS + field : field;
    }

    /** The children, their groups and their needs. */
    private static final class Children {
        private static final int FIRST_REVIEW = 7;
        private static final int SECOND_REVIEW = 28;
        private static final int REVIEW_STEP = 90;
        private static final int MOST_REVIEWS = 2 + LAST_DAY / REVIEW_STEP;

        private final int[] groups = new int[MOST_CHILDREN];
        private final boolean[] needing = new boolean[MOST_CHILDREN];
        private final int[] firsts = new int[MOST_CHILDREN];
        private final int[] lasts = new int[MOST_CHILDREN];
        private final boolean[] nights = new boolean[MOST_CHILDREN];
        private int size;

        int size() {
            return size;
        }

        boolean has(int child) {
            return child >= 0 && child < size;
        }

        int add(int group) {
            if (size >= MOST_CHILDREN || group < 0 || group > LAST_GROUP) {
                return NONE;
            }
            groups[size] = group;
            size++;
            return size - 1;
        }

        int groupOf(int child) {
            return has(child) ? groups[child] : 0;
        }

        void setNeed(int child, int first, int last, boolean night) {
            if (has(child)) {
                needing[child] = true;
                firsts[child] = first;
                lasts[child] = last;
                nights[child] = night;
            }
        }

        boolean endNeed(int child) {
            if (!hasNeed(child)) {
                return false;
            }
            needing[child] = false;
            return true;
        }

        boolean hasNeed(int child) {
            return has(child) && needing[child];
        }

        boolean needsOn(int child, int day) {
            return hasNeed(child) && firsts[child] <= day && day <= lasts[child];
        }

        int firstDay(int child) {
            return hasNeed(child) ? firsts[child] : NONE;
        }

        int lastDay(int child) {
            return hasNeed(child) ? lasts[child] : NONE;
        }

        boolean byNight(int child) {
            return hasNeed(child) && nights[child];
        }

        int reviewDay(int child, int k) {
            if (!hasNeed(child) || k < 0 || k >= MOST_REVIEWS) {
                return NONE;
            }
            int behind = k == 0 ? FIRST_REVIEW : SECOND_REVIEW + REVIEW_STEP * (k - 1);
            int day = firsts[child] + behind;
            return day <= lasts[child] ? day : NONE;
        }

        boolean hasReviewOn(int child, int day) {
            for (int k = 0; k < MOST_REVIEWS; k++) {
                int reviewed = reviewDay(child, k);
                if (reviewed == NONE || reviewed == day) {
                    return reviewed != NONE;
                }
            }
            return false;
        }
    }

    /** The homes, their beds and the days from which they are closed. */
    private static final class Homes {
        private final int[] bedCounts = new int[MOST_HOMES];
        private final int[] closings = new int[MOST_HOMES];
        private int size;

        int size() {
            return size;
        }

        boolean has(int home) {
            return home >= 0 && home < size;
        }

        int add(int bedCount) {
            if (size >= MOST_HOMES || bedCount < 1 || bedCount > MOST_BEDS) {
                return NONE;
            }
            bedCounts[size] = bedCount;
            closings[size] = NONE;
            size++;
            return size - 1;
        }

        int bedsOf(int home) {
            return has(home) ? bedCounts[home] : 0;
        }

        void closeFrom(int home, int day) {
            if (has(home)) {
                closings[home] = day;
            }
        }

        /** The day from which the home is closed; behind the last day of all if it stays open. */
        int closingOf(int home) {
            return has(home) && closings[home] != NONE ? closings[home] : LAST_DAY + 1;
        }
    }

    /** The papers of all homes, in the order told. */
    private static final class Papers {
        private final int[] owners = new int[MOST_PAPERS];
        private final int[] firsts = new int[MOST_PAPERS];
        private final int[] lasts = new int[MOST_PAPERS];
        private int size;

        int size() {
            return size;
        }

        int add(int home, int first, int last) {
            if (size >= MOST_PAPERS) {
                return NONE;
            }
            owners[size] = home;
            firsts[size] = first;
            lasts[size] = last;
            size++;
            return size - 1;
        }

        /** The latest last day of the home's papers that hold on a day, or NONE. */
        int latestEnd(int home, int day) {
            int latestEnd = NONE;
            for (int i = 0; i < size; i++) {
                if (owners[i] == home && firsts[i] <= day && day <= lasts[i]) {
                    latestEnd = Math.max(latestEnd, lasts[i]);
                }
            }
            return latestEnd;
        }
    }

    /** All facts, in the order told. */
    private static final class Facts {
        private final int[] slots = new int[MOST_FACTS];
        private final int[] owners = new int[MOST_FACTS];
        private final int[] numbers = new int[MOST_FACTS];
        private final int[] days = new int[MOST_FACTS];
        private final int[] tellings = new int[MOST_FACTS];
        private int size;

        int size() {
            return size;
        }

        int add(int slot, int owner, int number, int day, int told) {
            if (size >= MOST_FACTS) {
                return NONE;
            }
            slots[size] = slot;
            owners[size] = owner;
            numbers[size] = number;
            days[size] = day;
            tellings[size] = told;
            size++;
            return size;
        }

        int numberOn(int slot, int owner, int day, int known) {
            int number = 0;
            int since = NONE;
            for (int i = 0; i < size; i++) {
                boolean counts = slots[i] == slot && owners[i] == owner && tellings[i] <= known;
                if (counts && days[i] <= day && days[i] >= since) {
                    number = numbers[i];
                    since = days[i];
                }
            }
            return number;
        }

        /** Lays out all fields of a child and a home as they are on a day. */
        void layOut(Sheet sheet, int child, int home, int day, int known) {
            sheet.clear(day);
            for (int i = 0; i < size; i++) {
                int owner = slots[i] < FIELDS ? child : home;
                if (owners[i] == owner && tellings[i] <= known) {
                    sheet.take(slots[i], numbers[i], days[i]);
                }
            }
        }
    }

    /**
     * The fields of a child and a home on one day, and the next day on which one may turn. A side
     * of a term is kept as one number: a number of the text as it is, a field by its slot, which
     * is told from these by lying beyond them.
     */
    private static final class Sheet {
        private static final int SLOTS = 2 * FIELDS;
        private static final int FIRST_SLOT = GREATEST_NUMBER + 1;

        private final int[] numbers = new int[SLOTS];
        private final int[] sinces = new int[SLOTS];
        private int day;
        private int turn;

        void clear(int newDay) {
            Arrays.fill(numbers, 0);
            Arrays.fill(sinces, NONE);
            day = newDay;
            turn = LAST_DAY + 1;
        }

        /** Takes a fact; of those with the same first day the one taken last stays. */
        void take(int slot, int number, int since) {
            if (since > day) {
                turn = Math.min(turn, since);
            } else if (slot >= 0 && slot < SLOTS && since >= sinces[slot]) {
                numbers[slot] = number;
                sinces[slot] = since;
            }
        }

        int numberOf(int side) {
            int slot = side - FIRST_SLOT;
            return slot >= 0 && slot < SLOTS ? numbers[slot] : side;
        }

        int turn() {
            return turn;
        }
    }

    /** The bytes that were fed. */
    private static final class Tape {
        private static final int BYTES_A_NUMBER = 4;

        private final int[] bytes = new int[MOST_BYTES];
        private int size;

        int size() {
            return size;
        }

        void add(int number) {
            if (size + BYTES_A_NUMBER > MOST_BYTES) {
                return;
            }
            for (int shift = 24; shift >= 0; shift -= 8) {
                bytes[size] = (number >>> shift) & 255;
                size++;
            }
        }

        boolean cut(int n) {
            if (n < 0 || n > size) {
                return false;
            }
            size = n;
            return true;
        }

        /** The byte at a place; NONE behind the last. */
        int byteAt(int place) {
            return place >= 0 && place < size ? bytes[place] : NONE;
        }
    }

    /** The rules of one text. */
    private static final class RuleBook {
        private static final int MOST_RULES = 20;
        private static final int MOST_TERMS = 6;
        private static final int MUST = 0;
        private static final int NIGHT = 1;
        private static final int WISH = 2;

        private final int[] kinds = new int[MOST_RULES];
        private final int[] weights = new int[MOST_RULES];
        private final int[] termCounts = new int[MOST_RULES];
        private final int[] lefts = new int[MOST_RULES * MOST_TERMS];
        private final int[] signs = new int[MOST_RULES * MOST_TERMS];
        private final int[] rights = new int[MOST_RULES * MOST_TERMS];
        private int size;

        int size() {
            return size;
        }

        void clear() {
            size = 0;
        }

        void addRule(int kind, int weight) {
            if (size < MOST_RULES) {
                kinds[size] = kind;
                weights[size] = weight;
                termCounts[size] = 0;
                size++;
            }
        }

        /** Adds a term to the rule that was added last. */
        void addTerm(int left, int sign, int right) {
            int rule = size - 1;
            if (rule < 0 || termCounts[rule] >= MOST_TERMS) {
                return;
            }
            int term = rule * MOST_TERMS + termCounts[rule];
            lefts[term] = left;
            signs[term] = sign;
            rights[term] = right;
            termCounts[rule]++;
        }

        void takeFrom(RuleBook other) {
            System.arraycopy(other.kinds, 0, kinds, 0, MOST_RULES);
            System.arraycopy(other.weights, 0, weights, 0, MOST_RULES);
            System.arraycopy(other.termCounts, 0, termCounts, 0, MOST_RULES);
            System.arraycopy(other.lefts, 0, lefts, 0, MOST_RULES * MOST_TERMS);
            System.arraycopy(other.signs, 0, signs, 0, MOST_RULES * MOST_TERMS);
            System.arraycopy(other.rights, 0, rights, 0, MOST_RULES * MOST_TERMS);
            size = other.size;
        }

        /** The first rule of a kind that is not so, or NONE. */
        int firstBroken(int kind, Sheet sheet) {
            for (int rule = 0; rule < size; rule++) {
                if (kinds[rule] == kind && !isSo(rule, sheet)) {
                    return rule;
                }
            }
            return NONE;
        }

        int wishSum(Sheet sheet) {
            int sum = 0;
            for (int rule = 0; rule < size; rule++) {
                if (kinds[rule] == WISH && isSo(rule, sheet)) {
                    sum += weights[rule];
                }
            }
            return sum;
        }

        private boolean isSo(int rule, Sheet sheet) {
            int first = rule * MOST_TERMS;
            for (int term = first; term < first + termCounts[rule]; term++) {
                int left = sheet.numberOf(lefts[term]);
                int right = sheet.numberOf(rights[term]);
                if (signOf(left, right) != signs[term]) {
                    return false;
                }
            }
            return true;
        }

        /** The one sign that is so between two numbers. */
        private static int signOf(int left, int right) {
            if (left == right) {
                return '=';
            }
            return left < right ? '<' : '>';
        }
    }

    /** Reads the tape, word by word, into a draft of rules up to the first fault. */
    private static final class RuleReader {
        private static final int MISPLACED = 0;
        private static final int WRONG_NUMBER = 1;
        private static final int TOO_MANY = 2;
        private static final int MOST_DIGITS = 4;
        private static final int MOST_WISH = 100;

        private final Tape tape;
        private final RuleBook draft = new RuleBook();
        // The word or other byte that is looked at: from start to ahead of stop.
        private int start;
        private int stop;
        private int fault;

        RuleReader(Tape tape) {
            this.tape = tape;
        }

        RuleBook draft() {
            return draft;
        }

        /** The first fault of the text, or NONE: then the draft has its rules. */
        int read() {
            draft.clear();
            fault = NONE;
            stop = 0;
            step();
            boolean more = !isAtEnd();
            for (int rule = 0; more && rule <= RuleBook.MOST_RULES; rule++) {
                more = readHead(rule) && readTerms() && readBetweenRules();
            }
            return fault;
        }

        /** Reads a rule up to its terms. */
        private boolean readHead(int rule) {
            int kind = kindOfWord();
            if (kind == NONE) {
                return refuse(MISPLACED);
            }
            if (rule >= RuleBook.MOST_RULES) {
                return refuse(TOO_MANY);
            }
            step();
            int weight = kind == RuleBook.WISH ? readWeight() : 0;
            if (weight == NONE) {
                return false;
            }
            draft.addRule(kind, weight);
            return true;
        }

        /** Whether another rule has to come. */
        private boolean readBetweenRules() {
            if (isAtEnd()) {
                return false;
            }
            if (tape.byteAt(start) != ';') {
                return refuse(MISPLACED);
            }
            step();
            return true;
        }

        private int kindOfWord() {
            if (isWord("must")) {
                return RuleBook.MUST;
            }
            if (isWord("night")) {
                return RuleBook.NIGHT;
            }
            return isWord("wish") ? RuleBook.WISH : NONE;
        }

        private int readWeight() {
            int weight = isNumber() ? numberOfWord() : NONE;
            if (!isNumber()) {
                refuse(MISPLACED);
            } else if (weight < 1 || weight > MOST_WISH) {
                refuse(WRONG_NUMBER);
                weight = NONE;
            } else {
                step();
            }
            return weight;
        }

        private boolean readTerms() {
            for (int term = 0; term <= RuleBook.MOST_TERMS; term++) {
                if (!readTerm(term)) {
                    return false;
                }
                if (!isWord("and")) {
                    return true;
                }
                step();
            }
            return false;
        }

        private boolean readTerm(int term) {
            int left = readSide(term >= RuleBook.MOST_TERMS);
            if (left == NONE) {
                return false;
            }
            int sign = tape.byteAt(start);
            if (sign != '<' && sign != '>' && sign != '=') {
                return refuse(MISPLACED);
            }
            step();
            int right = readSide(false);
            if (right == NONE) {
                return false;
            }
            draft.addTerm(left, sign, right);
            return true;
        }

        /** A side as the rule book keeps it, or NONE behind a fault. */
        private int readSide(boolean tooMany) {
            boolean number = isNumber();
            int slot = number ? NONE : slotOfWord();
            if (!number && slot == NONE) {
                refuse(MISPLACED);
                return NONE;
            }
            int side = number ? numberOfWord() : Sheet.FIRST_SLOT + slot;
            if (side == NONE || tooMany) {
                refuse(side == NONE ? WRONG_NUMBER : TOO_MANY);
                return NONE;
            }
            step();
            return side;
        }

        private int slotOfWord() {
            int side = tape.byteAt(start);
            int field = tape.byteAt(start + 1) - '0';
            boolean named = stop - start == 2 && (side == 'c' || side == 'h');
            return named && isField(field) ? slotOf(side == 'h', field) : NONE;
        }

        /** The number of a word of digits; NONE if it has too many of them. */
        private int numberOfWord() {
            if (stop - start > MOST_DIGITS) {
                return NONE;
            }
            int number = 0;
            for (int place = start; place < stop; place++) {
                number = number * 10 + tape.byteAt(place) - '0';
            }
            return number;
        }

        private boolean isNumber() {
            for (int place = start; place < stop; place++) {
                if (!isDigit(tape.byteAt(place))) {
                    return false;
                }
            }
            return stop > start;
        }

        private boolean isWord(String word) {
            if (stop - start != word.length()) {
                return false;
            }
            for (int i = 0; i < word.length(); i++) {
                if (tape.byteAt(start + i) != word.charAt(i)) {
                    return false;
                }
            }
            return true;
        }

        private boolean isAtEnd() {
            return start >= tape.size();
        }

        /** Goes on to the next word, or to the next byte that is none of a word. */
        private void step() {
            start = stop;
            while (start < tape.size() && tape.byteAt(start) == ' ') {
                start++;
            }
            stop = start;
            while (stop < tape.size() && isOfWord(tape.byteAt(stop))) {
                stop++;
            }
            if (stop == start && start < tape.size()) {
                stop++;
            }
        }

        private boolean refuse(int kind) {
            fault = 1 + 8 * start + kind;
            return false;
        }

        private static boolean isOfWord(int letter) {
            return (letter >= 'a' && letter <= 'z') || (letter >= '0' && letter <= '9');
        }

        private static boolean isDigit(int letter) {
            return letter >= '0' && letter <= '9';
        }
    }

    /** Tells what bars a home for a child, and what the child would wish of it. */
    private static final class Judge {
        private static final int NOTHING = 0;
        private static final int CLOSED = 1;
        private static final int NO_PAPER = 2;
        private static final int FIRST_RULE = 10;

        private final Children children;
        private final Homes homes;
        private final Papers papers;
        private final Facts facts;
        private final RuleBook book;
        private final Sheet sheet = new Sheet();
        private int barDay = NONE;

        Judge(Children children, Homes homes, Papers papers, Facts facts, RuleBook book) {
            this.children = children;
            this.homes = homes;
            this.papers = papers;
            this.facts = facts;
            this.book = book;
        }

        /** The day of the bar that was found last. */
        int barDay() {
            return barDay;
        }

        int findBar(int child, int home, int today) {
            barDay = NONE;
            if (!children.hasNeed(child) || !homes.has(home)) {
                return NONE;
            }
            int last = children.lastDay(child);
            int turn = children.firstDay(child);
            for (int day = turn; day <= last; day++) {
                // Between two turns every day is like the one ahead.
                if (day == turn) {
                    int bar = barOn(child, home, day, today);
                    if (bar != NOTHING) {
                        barDay = day;
                        return bar;
                    }
                    turn = turnBehind(home, day);
                }
            }
            return NOTHING;
        }

        private int barOn(int child, int home, int day, int today) {
            if (homes.closingOf(home) <= day) {
                return CLOSED;
            }
            if (papers.latestEnd(home, day) == NONE) {
                return NO_PAPER;
            }
            facts.layOut(sheet, child, home, day, today);
            int kind = children.byNight(child) ? RuleBook.NIGHT : RuleBook.MUST;
            int broken = book.firstBroken(kind, sheet);
            return broken == NONE ? NOTHING : FIRST_RULE + broken;
        }

        /** The next day on which a closing, a paper or a fact of the sheet may change something. */
        private int turnBehind(int home, int day) {
            int turn = Math.min(homes.closingOf(home), papers.latestEnd(home, day) + 1);
            return Math.min(turn, sheet.turn());
        }

        int wishOf(int child, int home, int today) {
            if (!children.hasNeed(child) || !homes.has(home)) {
                return NONE;
            }
            facts.layOut(sheet, child, home, children.firstDay(child), today);
            return book.wishSum(sheet);
        }
    }

    /** The latest placing, and what is told of it. */
    private static final class Placing {
        private static final int NEEDING = 0;
        private static final int WITHOUT = 1;
        private static final int PARTED = 2;
        private static final int MOVED = 3;
        private static final int WISHES = 4;
        private static final int FIGURES = 5;

        private final int[] homesOf = new int[MOST_CHILDREN];
        private final int[] figures = new int[FIGURES];

        Placing() {
            Arrays.fill(homesOf, NONE);
            Arrays.fill(figures, NONE);
        }

        int homeOf(int child) {
            return child >= 0 && child < MOST_CHILDREN ? homesOf[child] : NONE;
        }

        int figure(int what) {
            return what >= 0 && what < FIGURES ? figures[what] : NONE;
        }

        void setHome(int child, int home) {
            if (child >= 0 && child < MOST_CHILDREN) {
                homesOf[child] = home;
            }
        }

        void clearFigures() {
            Arrays.fill(figures, 0);
        }

        void raise(int what, int more) {
            if (what >= 0 && what < FIGURES) {
                figures[what] += more;
            }
        }
    }

    /**
     * Finds the best placing: goes through the children in turn, and for each through the homes
     * and none, and leaves every branch that can't come out better than the best one so far. The
     * first of the best is found first, so a later one has to be better to take its place.
     */
    private static final class Placer {
        // One number orders placings: no sum of the lesser prices reaches the next greater one.
        private static final int PRICE_OF_MOVE = 1 << 14;
        private static final int PRICE_OF_PARTING = PRICE_OF_MOVE << 3;
        private static final int PRICE_OF_NO_HOME = PRICE_OF_PARTING << 2;
        private static final int BARRED = Integer.MAX_VALUE;

        private final Children children;
        private final Homes homes;
        private final Judge judge;
        private final Placing latest;
        private final int[] wishes = new int[MOST_CHILDREN * MOST_HOMES];
        private final int[] prices = new int[MOST_CHILDREN * MOST_HOMES];
        private final int[] pricesOfNone = new int[MOST_CHILDREN];
        private final int[] leastBehind = new int[MOST_CHILDREN + 1];
        private final int[] together = new int[MOST_CHILDREN];
        private final int[] peaks = new int[1 << MOST_CHILDREN];
        private final int[] residents = new int[MOST_HOMES];
        private final int[] homesOfGroup = new int[LAST_GROUP + 1];
        private final int[] trial = new int[MOST_CHILDREN];
        private final int[] best = new int[MOST_CHILDREN];
        private int bestPrice;

        Placer(Children children, Homes homes, Judge judge, Placing latest) {
            this.children = children;
            this.homes = homes;
            this.judge = judge;
            this.latest = latest;
        }

        /** Sets the price of each home, and of none, for each child. */
        void weigh(boolean keep, int today) {
            int move = keep ? PRICE_OF_MOVE : 0;
            for (int child = 0; child < children.size(); child++) {
                int had = latest.homeOf(child);
                for (int home = 0; home < homes.size(); home++) {
                    int pair = child * MOST_HOMES + home;
                    boolean fits = judge.findBar(child, home, today) == Judge.NOTHING;
                    wishes[pair] = fits ? judge.wishOf(child, home, today) : 0;
                    int moved = had != NONE && had != home ? move : 0;
                    prices[pair] = fits ? moved - wishes[pair] : BARRED;
                }
                int priceOfNone = PRICE_OF_NO_HOME + (had != NONE ? move : 0);
                pricesOfNone[child] = children.hasNeed(child) ? priceOfNone : 0;
            }
        }

        void findBest() {
            sumLeastPrices();
            findTogether();
            findPeaks();
            Arrays.fill(residents, 0);
            Arrays.fill(homesOfGroup, 0);
            bestPrice = BARRED;
            search(0, 0);
        }

        private void sumLeastPrices() {
            leastBehind[children.size()] = 0;
            for (int child = children.size() - 1; child >= 0; child--) {
                int least = pricesOfNone[child];
                for (int home = 0; home < homes.size(); home++) {
                    least = Math.min(least, prices[child * MOST_HOMES + home]);
                }
                leastBehind[child] = leastBehind[child + 1] + least;
            }
        }

        /** For each child the set of those who need a bed on the first day of its need. */
        private void findTogether() {
            for (int child = 0; child < children.size(); child++) {
                int set = 0;
                for (int other = 0; other < children.size(); other++) {
                    if (children.needsOn(other, children.firstDay(child))) {
                        set |= 1 << other;
                    }
                }
                together[child] = set;
            }
        }

        /** For each set of children the most beds on one day: that is the first day of one. */
        private void findPeaks() {
            for (int set = 0; set < 1 << children.size(); set++) {
                int peak = 0;
                for (int child = 0; child < children.size(); child++) {
                    if ((set >> child & 1) == 1) {
                        peak = Math.max(peak, Integer.bitCount(together[child] & set));
                    }
                }
                peaks[set] = peak;
            }
        }

        private void search(int child, int price) {
            if (child > children.size() || price + leastBehind[child] >= bestPrice) {
                return;
            }
            if (child == children.size()) {
                bestPrice = price;
                System.arraycopy(trial, 0, best, 0, MOST_CHILDREN);
                return;
            }
            for (int home = 0; home < homes.size(); home++) {
                if (prices[child * MOST_HOMES + home] != BARRED) {
                    searchWithHome(child, home, price);
                }
            }
            trial[child] = NONE;
            search(child + 1, price + pricesOfNone[child]);
        }

        private void searchWithHome(int child, int home, int price) {
            int ahead = residents[home];
            int now = ahead | 1 << child;
            if (peaks[now] > homes.bedsOf(home)) {
                return;
            }
            int group = children.groupOf(child);
            int groupAhead = homesOfGroup[group];
            int groupNow = group == 0 ? 0 : groupAhead | 1 << home;
            boolean parts = Integer.bitCount(groupAhead) == 1 && groupNow != groupAhead;
            residents[home] = now;
            homesOfGroup[group] = groupNow;
            trial[child] = home;
            int more = prices[child * MOST_HOMES + home] + (parts ? PRICE_OF_PARTING : 0);
            search(child + 1, price + more);
            residents[home] = ahead;
            homesOfGroup[group] = groupAhead;
        }

        /** Makes the best placing the latest. */
        void settle() {
            latest.clearFigures();
            Arrays.fill(homesOfGroup, 0);
            for (int child = 0; child < children.size(); child++) {
                if (children.hasNeed(child)) {
                    latest.raise(Placing.NEEDING, 1);
                    countChild(child, best[child]);
                }
                latest.setHome(child, best[child]);
            }
            for (int group = 1; group <= LAST_GROUP; group++) {
                latest.raise(Placing.PARTED, Integer.bitCount(homesOfGroup[group]) > 1 ? 1 : 0);
            }
        }

        private void countChild(int child, int home) {
            int had = latest.homeOf(child);
            if (had != NONE && had != home) {
                latest.raise(Placing.MOVED, 1);
            }
            if (home == NONE) {
                latest.raise(Placing.WITHOUT, 1);
            } else {
                homesOfGroup[children.groupOf(child)] |= 1 << home;
                latest.raise(Placing.WISHES, wishes[child * MOST_HOMES + home]);
            }
        }
    }
}
