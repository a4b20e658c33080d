/** Promises 15 to 17: what bars a home, on which day, and what is wished, at every edge. */
public final class FitEdgesTest {
    private static final int NONE = HomeFinder.NONE;
    private static final Check CHECK = new Check();
    // Two different numbers, so that a child can't be taken for a home.
    private static final int CHILD = 2;
    private static final int HOME = 1;

    private FitEdgesTest() { }

    public static void main(String[] args) {
        for (int[] days : new int[][] {{0, 0}, {0, 59}, {100, 101}, {100, 159}, {940, 999}, {999, 999}}) {
            closedOnEachDay(days[0], days[1]);
            paperUpToEachDay(days[0], days[1]);
            paperFromEachDay(days[0], days[1]);
            ruleOnEachDay(days[0], days[1], false);
            ruleOnEachDay(days[0], days[1], true);
            wishOnTheFirstDay(days[0], days[1]);
        }
        firstOfThree();
        gapsOfPapers();
        firstAndLastRule();
        rulesOfTheOtherKind();
        signsAtTheirEdges();
        knownOnTheClocksDay();
        sumsOfWishes();
        withoutThese();
        CHECK.finish();
    }

    private static void due(String call, int got, int want) {
        CHECK.due(call, got, want);
    }

    /** A child with a need and a home, without papers and rules; the others stand beside them. */
    private static HomeFinder bare(int first, int last, boolean night) {
        HomeFinder desk = new HomeFinder();
        for (int i = 0; i < 3; i++) {
            desk.child(0);
            desk.home(1);
            desk.need(i, i == CHILD ? first : 0, i == CHILD ? last : 59, i == CHILD ? night : !night);
            if (i != HOME) {
                desk.paper(i, 0, 999);
            }
        }
        return desk;
    }

    private static HomeFinder pair(int first, int last, boolean night) {
        HomeFinder desk = bare(first, last, night);
        desk.paper(HOME, 0, 999);
        return desk;
    }

    private static void barred(String what, HomeFinder desk, int bar, int day) {
        due("15: " + what, desk.bars(CHILD, HOME), bar);
        due("16: " + what, desk.barred(CHILD, HOME), day);
    }

    private static void closedOnEachDay(int first, int last) {
        HomeFinder desk = pair(first, last, false);
        for (int day = Math.max(0, first - 2); day <= last; day++) {
            desk.close(HOME, day);
            barred("CLOSED from " + day + " on", desk, 1, Math.max(first, day));
        }
        if (last < 999) {
            desk.close(HOME, last + 1);
            barred("CLOSED behind the last day", desk, 0, NONE);
        }
        desk.close(HOME, NONE);
        barred("CLOSED no more", desk, 0, NONE);
    }

    private static void paperUpToEachDay(int first, int last) {
        HomeFinder none = bare(first, last, false);
        barred("no PAPER at all", none, 2, first);
        for (int day = first; day < last; day++) {
            HomeFinder desk = bare(first, last, false);
            desk.paper(HOME, 0, day);
            barred("a PAPER up to " + day, desk, 2, day + 1);
        }
        HomeFinder desk = bare(first, last, false);
        desk.paper(HOME, first, last);
        barred("a PAPER of the very days", desk, 0, NONE);
    }

    private static void paperFromEachDay(int first, int last) {
        for (int day = first + 1; day <= last; day++) {
            HomeFinder desk = bare(first, last, false);
            desk.paper(HOME, day, 999);
            barred("a PAPER from " + day + " on", desk, 2, first);
        }
        HomeFinder desk = bare(first, last, false);
        if (first > 0) {
            desk.paper(HOME, 0, first - 1);
        }
        if (last < 999) {
            desk.paper(HOME, last + 1, 999);
        }
        barred("PAPERS ahead of the need and behind it", desk, 2, first);
    }

    private static void ruleOnEachDay(int first, int last, boolean night) {
        String text = (night ? "night" : "must") + " c7<1 and h7<1";
        for (boolean home : new boolean[] {false, true}) {
            for (int day = first; day <= last; day++) {
                HomeFinder desk = pair(first, last, night);
                Check.read(desk, text);
                barred("all so", desk, 0, NONE);
                desk.fact(home, home ? HOME : CHILD, 7, 1, day);
                barred("a FACT from " + day + " on", desk, 10, day);
                desk.fact(home, home ? HOME : CHILD, 7, 0, day);
                barred("told anew", desk, 0, NONE);
            }
        }
        HomeFinder desk = pair(first, last, night);
        Check.read(desk, text);
        if (last < 999) {
            desk.fact(false, CHILD, 7, 1, last + 1);
            barred("a FACT behind the last day", desk, 0, NONE);
        }
        if (first > 0) {
            desk.fact(false, CHILD, 7, 1, first - 1);
            desk.fact(false, CHILD, 7, 0, first);
            barred("a FACT of the day ahead of the first", desk, 0, NONE);
        }
    }

    private static void wishOnTheFirstDay(int first, int last) {
        HomeFinder desk = pair(first, last, false);
        Check.read(desk, "wish 8 c0=1;wish 16 h0=1");
        if (last > first) {
            desk.fact(false, CHILD, 0, 1, first + 1);
            desk.fact(true, HOME, 0, 1, last);
        }
        due("17: behind the first day", desk.wish(CHILD, HOME), 0);
        desk.fact(false, CHILD, 0, 1, first);
        due("17: on the first day", desk.wish(CHILD, HOME), 8);
        desk.fact(true, HOME, 0, 1, 0);
        due("17: ahead of the first day", desk.wish(CHILD, HOME), 24);
        desk.fact(true, HOME, 0, 2, first);
        due("17: so no more on the first day", desk.wish(CHILD, HOME), 8);
    }

    /** On one day closed is ahead of no paper, and that ahead of rules; an earlier day is first. */
    private static void firstOfThree() {
        HomeFinder desk = bare(50, 55, false);
        desk.paper(HOME, 0, 52);
        Check.read(desk, "must c0=0;must c0<0");
        desk.fact(false, CHILD, 0, 7, 53);
        desk.fact(false, CHILD, 0, -1, 0);
        barred("both rules, the first", desk, 10, 50);
        Check.read(desk, "must c0<7;must c0=7");
        barred("the second alone", desk, 11, 50);
        Check.read(desk, "must c0<7");
        desk.close(HOME, 53);
        barred("all three on one day", desk, 1, 53);
        desk.close(HOME, 54);
        barred("no PAPER ahead of a RULE", desk, 2, 53);
        desk.paper(HOME, 53, 53);
        barred("a RULE a day ahead of CLOSED", desk, 10, 53);
        desk.close(HOME, 53);
        barred("CLOSED ahead of a RULE", desk, 1, 53);
        desk.close(HOME, 51);
        barred("CLOSED a day earlier", desk, 1, 51);
    }

    private static void gapsOfPapers() {
        HomeFinder desk = bare(100, 120, false);
        desk.paper(HOME, 100, 104);
        desk.paper(HOME, 106, 120);
        barred("a gap of one day", desk, 2, 105);
        desk.paper(HOME, 105, 105);
        barred("the gap is filled", desk, 0, NONE);
        desk = bare(100, 120, false);
        desk.paper(HOME, 111, 120);
        desk.paper(HOME, 90, 104);
        desk.paper(HOME, 103, 110);
        barred("papers that overlap, told in any order", desk, 0, NONE);
        desk.need(CHILD, 100, 121, false);
        barred("another home's PAPER does not count", desk, 2, 121);
    }

    private static void firstAndLastRule() {
        HomeFinder desk = pair(5, 5, false);
        Check.read(desk, "must 1=2" + ";must 1=1".repeat(19));
        barred("RULE 0", desk, 10, 5);
        Check.read(desk, "must 1=1;".repeat(19) + "must 1=2");
        barred("RULE 19", desk, 29, 5);
        Check.read(desk, "wish 1 1=2;".repeat(19) + "must 1=2");
        barred("RULE 19, of all rules, not of the musts", desk, 29, 5);
        Check.read(desk, "must 1=1;".repeat(19) + "must 2=2");
        barred("twenty that are so", desk, 0, NONE);
    }

    private static void rulesOfTheOtherKind() {
        HomeFinder day = pair(5, 9, false);
        HomeFinder night = pair(5, 9, true);
        Check.read(day, "night 1=2;wish 5 1=2;must 1=1");
        Check.read(night, "must 1=2;wish 5 1=2;night 1=1");
        barred("by day night rules do not count", day, 0, NONE);
        barred("by night musts do not count", night, 0, NONE);
        Check.read(day, "night 1=1;must 1=2");
        Check.read(night, "must 1=1;night 1=2");
        barred("by day the must", day, 11, 5);
        barred("by night the night rule", night, 11, 5);
    }

    private static void isSo(String cond, int child, int home, boolean want) {
        HomeFinder desk = pair(0, 0, false);
        desk.fact(false, CHILD, 0, child, 0);
        desk.fact(true, HOME, 0, home, 0);
        Check.read(desk, "must " + cond + ";wish 100 " + cond);
        String what = cond + " with " + child + " and " + home;
        due("15: " + what, desk.bars(CHILD, HOME), want ? 0 : 10);
        due("17: " + what, desk.wish(CHILD, HOME), want ? 100 : 0);
    }

    private static void signsAtTheirEdges() {
        for (int number : new int[] {-999, -998, -1, 0, 1, 9998, 9999}) {
            for (int other : new int[] {-999, -998, -1, 0, 1, 9998, 9999}) {
                isSo("c0<h0", number, other, number < other);
                isSo("c0>h0", number, other, number > other);
                isSo("c0=h0", number, other, number == other);
                isSo("h0<c0", number, other, other < number);
            }
            isSo("c0<9999", number, 0, number < 9999);
            isSo("9999=c0", number, 0, number == 9999);
            isSo("h0>0", 0, number, number > 0);
            isSo("0000=h0", 0, number, number == 0);
        }
        isSo("0<9999", 0, 0, true);
        isSo("9999>9998", 0, 0, true);
        isSo("c0=c0", -999, 0, true);
    }

    private static void knownOnTheClocksDay() {
        HomeFinder desk = pair(100, 110, false);
        Check.read(desk, "must c0=0;wish 9 h0=4");
        desk.clock(500);
        desk.fact(false, CHILD, 0, 1, 110);
        desk.fact(true, HOME, 0, 4, 0);
        barred("told on the clock's day", desk, 10, 110);
        due("17: told on the clock's day", desk.wish(CHILD, HOME), 9);
        desk.clock(999);
        barred("on the clock's last day", desk, 10, 110);
        desk.fact(false, CHILD, 0, 0, 110);
        barred("told on its last day", desk, 0, NONE);
    }

    private static void sumsOfWishes() {
        HomeFinder desk = pair(10, 20, true);
        due("17: no RULES", desk.wish(CHILD, HOME), 0);
        Check.read(desk, "must 1=1;night 1=1");
        due("17: no wishes", desk.wish(CHILD, HOME), 0);
        Check.read(desk, "wish 1 1=1");
        due("17: the least", desk.wish(CHILD, HOME), 1);
        Check.read(desk, "wish 100 1=2");
        due("17: none is so", desk.wish(CHILD, HOME), 0);
        Check.read(desk, "wish 100 1=1" + ";wish 100 2=2".repeat(19));
        due("17: the greatest", desk.wish(CHILD, HOME), 2000);
        Check.read(desk, "wish 1 1=2;" + "wish 2 1=1;".repeat(18) + "wish 64 1=1");
        due("17: all but the first", desk.wish(CHILD, HOME), 100);
        desk.close(HOME, 0);
        due("17: whether it FITS or not", desk.wish(CHILD, HOME), 100);
        Check.read(desk, "wish 7 1=1 and 2=2 and 3=3 and 4=4 and 5=5 and 6=7;wish 8 1=1");
        due("17: a COND of which the last TERM is not so", desk.wish(CHILD, HOME), 8);
    }

    private static void withoutThese() {
        HomeFinder desk = new HomeFinder();
        due("15: neither child nor home", desk.bars(0, 0), NONE);
        due("16: neither child nor home", desk.barred(0, 0), NONE);
        due("17: neither child nor home", desk.wish(0, 0), NONE);
        desk.child(0);
        due("15: no home", desk.bars(0, 0), NONE);
        desk.home(1);
        due("15: no NEED", desk.bars(0, 0), NONE);
        due("16: no NEED", desk.barred(0, 0), NONE);
        due("17: no NEED", desk.wish(0, 0), NONE);
        desk.need(0, 0, 0, false);
        due("15: with these", desk.bars(0, 0), 2);
        due("16: with these, on day 0", desk.barred(0, 0), 0);
        due("17: with these", desk.wish(0, 0), 0);
        due("16: child 1 behind a bar that was found", desk.barred(1, 0), NONE);
        due("16: home 1 behind a bar that was found", desk.barred(0, 1), NONE);
        desk.ends(0);
        due("16: the NEED ended", desk.barred(0, 0), NONE);
    }
}
