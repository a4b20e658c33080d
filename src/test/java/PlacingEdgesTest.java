import java.math.BigInteger;

/** Promises 18 to 23: the best placing and what is told of it, at every edge. */
public final class PlacingEdgesTest {
    private static final int NONE = HomeFinder.NONE;
    private static final Check CHECK = new Check();

    private PlacingEdgesTest() { }

    public static void main(String[] args) {
        nobodyToPlace();
        everyNumberOfBeds();
        needsThatMeetOnOneDay();
        bedsOnTheBusiestDay();
        busiestDayOfEachChild();
        whatDoesNotFit();
        oneWithoutOutweighsAll();
        onePartedOutweighsMoves();
        oneMoveOutweighsWishes();
        oneWishOutweighsOrder();
        theFirstOfEqualOnes();
        groupsAtTheirEdges();
        movedAtItsEdges();
        whoHadNoneIsNotMoved();
        movedByTheLatestAlone();
        keepAheadOfAnyPlacing();
        atWhenNeedsChanged();
        placedStaysAsItWas();
        bedsByNeedsAsTheyAre();
        reviewAtTheLastDays();
        reviewsThatWrapAround();
        reviewsOfAll();
        CHECK.finish();
    }

    private static void due(String call, int got, int want) {
        CHECK.due(call, got, want);
    }

    private static void homes(String what, HomeFinder desk, int... want) {
        for (int child = 0; child < want.length; child++) {
            due("19: " + what + ", at(" + child + ")", desk.at(child), want[child]);
        }
    }

    private static void figures(String what, HomeFinder desk, int... want) {
        for (int i = 0; i < want.length; i++) {
            due("20: " + what + ", placed(" + i + ")", desk.placed(i), want[i]);
        }
    }

    private static HomeFinder desk(int... beds) {
        return Desks.homes(beds);
    }

    private static void children(HomeFinder desk, int... groups) {
        Desks.children(desk, groups);
    }

    private static void nobodyToPlace() {
        HomeFinder desk = new HomeFinder();
        due("18: an empty object", desk.place(false), 0);
        figures("an empty object", desk, 0, 0, 0, 0, 0);
        desk = desk(6, 6, 6, 6, 6);
        due("18: homes alone", desk.place(true), 0);
        figures("homes alone", desk, 0, 0, 0, 0, 0);
        for (int child = 0; child < 7; child++) {
            desk.child(1);
        }
        due("18: nobody has a NEED", desk.place(true), 0);
        figures("nobody has a NEED", desk, 0, 0, 0, 0, 0);
        homes("nobody has a NEED", desk, NONE, NONE, NONE, NONE, NONE, NONE, NONE);
        desk = desk();
        children(desk, 1, 1, 1, 1, 1, 1, 1);
        due("18: seven and no home", desk.place(true), 7);
        figures("seven and no home", desk, 7, 7, 0, 0, 0);
    }

    private static void everyNumberOfBeds() {
        for (int beds = 1; beds <= 6; beds++) {
            HomeFinder desk = desk(beds);
            children(desk, 0, 0, 0, 0, 0, 0, 0);
            due("18: seven and beds " + beds, desk.place(false), 7 - beds);
            for (int child = 0; child < 7; child++) {
                due("18: beds " + beds, desk.at(child), child < beds ? 0 : NONE);
            }
            due("21: on their day", desk.beds(0, 15), beds);
        }
    }

    private static void needsThatMeetOnOneDay() {
        for (int day : new int[] {1, 500, 999}) {
            HomeFinder desk = desk(1);
            children(desk, 0, 0);
            desk.need(0, Math.max(0, day - 59), day, false);
            desk.need(1, day, Math.min(999, day + 59), false);
            due("18: they meet on day " + day, desk.place(false), 1);
            homes("they meet", desk, 0, NONE);
            desk.need(0, Math.max(0, day - 60), day - 1, false);
            due("18: they do not meet", desk.place(false), 0);
            homes("they do not meet", desk, 0, 0);
        }
        HomeFinder desk = desk(1);
        children(desk, 0, 0);
        desk.need(0, 0, 0, false);
        desk.need(1, 0, 0, true);
        due("18: both on day 0, by day and by night", desk.place(false), 1);
    }

    /** Needs that overlap in a chain are never three at once; one long need makes them so. */
    private static void bedsOnTheBusiestDay() {
        HomeFinder desk = desk(2);
        children(desk, 0, 0, 0, 0, 0, 0, 0);
        for (int child = 0; child < 7; child++) {
            desk.need(child, 10 * child, 10 * child + 19, false);
        }
        due("18: two at most on each day", desk.place(false), 0);
        desk.need(3, 29, 49, false);
        due("18: three on day 29", desk.place(false), 1);
        homes("the first have it", desk, 0, 0, 0, NONE, 0, 0, 0);
        desk.need(3, 30, 50, false);
        due("18: three on day 50", desk.place(false), 1);
        homes("three on day 50", desk, 0, 0, 0, 0, 0, NONE, 0);
        desk.need(3, 30, 49, false);
        due("18: two again", desk.place(false), 0);
    }

    /** The one day on which all meet is the first of one need and the last of all others. */
    private static void busiestDayOfEachChild() {
        for (int late = 0; late < 7; late++) {
            HomeFinder desk = desk(6);
            children(desk, 0, 0, 0, 0, 0, 0, 0);
            for (int child = 0; child < 7; child++) {
                desk.need(child, child == late ? 30 : 20 - child, child == late ? 40 : 30, false);
            }
            due("18: seven on the first day of child " + late, desk.place(false), 1);
            desk.need(late, 31, 40, false);
            due("18: never seven, child " + late + " a day later", desk.place(false), 0);
        }
    }

    private static void whatDoesNotFit() {
        HomeFinder desk = desk(6);
        children(desk, 0);
        desk.close(0, 21);
        due("18: CLOSED behind the last day", desk.place(false), 0);
        desk.close(0, 20);
        due("18: CLOSED on the last day", desk.place(false), 1);
        desk.close(0, NONE);
        Check.read(desk, "must c1=0");
        desk.fact(false, 0, 1, 1, 21);
        due("18: a must not so behind the last day", desk.place(false), 0);
        desk.fact(false, 0, 1, 1, 20);
        due("18: a must not so on the last day", desk.place(false), 1);
        desk.need(0, 10, 20, true);
        due("18: by night no must counts", desk.place(false), 0);
        HomeFinder other = new HomeFinder();
        other.home(6);
        children(other, 0);
        due("18: no PAPER", other.place(false), 1);
        other.paper(0, 10, 19);
        due("18: no PAPER on the last day", other.place(false), 1);
        other.paper(0, 20, 20);
        due("18: a PAPER on each day", other.place(false), 0);
    }

    /** Three groups are parted, three children moved and 5700 wished less, for one more home. */
    private static void oneWithoutOutweighsAll() {
        HomeFinder desk = desk(2, 2, 2, 1);
        children(desk, 1, 1, 2, 2, 3, 3, 0);
        for (int child = 0; child < 6; child++) {
            desk.fact(false, child, 1, child / 2 - 1, 0);
            desk.fact(false, child, 2, child / 2 + 2, 0);
            desk.fact(false, child, 3, child / 2, 0);
        }
        desk.fact(false, 6, 1, -1, 0);
        desk.fact(false, 6, 2, 1, 0);
        desk.fact(false, 6, 3, 9, 0);
        Check.read(desk, "must h0>c1 and h0<c2" + ";wish 100 c3=h0".repeat(19));
        desk.ends(6);
        due("18: the pairs", desk.place(true), 0);
        homes("the pairs", desk, 0, 0, 1, 1, 2, 2, NONE);
        figures("the pairs", desk, 6, 0, 0, 0, 6 * 1900);
        desk.need(6, 10, 20, false);
        due("18: the fewest without a home", desk.place(true), 0);
        homes("the fewest without", desk, 0, 1, 1, 2, 2, 3, 0);
        figures("the fewest without", desk, 7, 0, 3, 3, 3 * 1900);
    }

    /** All seven move and 11400 is wished less, so that one group is not parted. */
    private static void onePartedOutweighsMoves() {
        HomeFinder desk = desk(1, 1);
        children(desk, 2, 2, 2, 2, 2, 2, 2);
        for (int child = 0; child < 7; child++) {
            desk.need(child, 100 * child, 100 * child + 59, false);
        }
        Check.read(desk, "night h0=1" + ";wish 100 h0=0".repeat(19));
        due("18: all in one home", desk.place(true), 0);
        homes("all in one home", desk, 0, 0, 0, 0, 0, 0, 0);
        figures("all in one home", desk, 7, 0, 0, 0, 7 * 1900);
        desk.need(6, 600, 659, true);
        due("18: the fewest GROUPS PARTED", desk.place(true), 0);
        homes("the fewest GROUPS PARTED", desk, 1, 1, 1, 1, 1, 1, 1);
        figures("the fewest GROUPS PARTED", desk, 7, 0, 0, 7, 0);
    }

    /** A child that would have to move keeps its bed from six, who wish 14000 with it. */
    private static void oneMoveOutweighsWishes() {
        for (boolean keep : new boolean[] {true, false}) {
            HomeFinder desk = desk(1, 6);
            children(desk, 0);
            desk.need(0, 0, 59, false);
            desk.fact(false, 0, 0, 1, 0);
            desk.place(false);
            for (int child = 1; child < 7; child++) {
                children(desk, 0);
                desk.need(child, 10 * child - 10, 10 * child - 1, false);
            }
            Check.read(desk, "wish 100 c0=h0" + ";wish 100 c0=h0".repeat(19));
            due("18: all have a home", desk.place(keep), 0);
            if (keep) {
                homes("the fewest MOVED", desk, 0, 1, 1, 1, 1, 1, 1);
                figures("the fewest MOVED", desk, 7, 0, 0, 0, 0);
            } else {
                homes("the greatest sum", desk, 1, 0, 0, 0, 0, 0, 0);
                figures("the greatest sum, MOVED also without keep", desk, 7, 0, 0, 1, 14000);
            }
        }
    }

    private static void oneWishOutweighsOrder() {
        HomeFinder desk = desk(1, 1, 1, 1, 1);
        children(desk, 0, 0, 0, 0, 0, 0, 0);
        Check.read(desk, "wish 1 c1=1 and h0=0");
        desk.fact(false, 6, 1, 1, 0);
        due("18: two without", desk.place(false), 2);
        homes("the last child's wish of 1", desk, 1, 2, 3, 4, NONE, NONE, 0);
        figures("the last child's wish of 1", desk, 7, 2, 0, 0, 1);
        desk.fact(false, 5, 1, 1, 0);
        desk.place(false);
        homes("of two that wish alike the first", desk, 1, 2, 3, 4, NONE, 0, NONE);
        figures("of two that wish alike", desk, 7, 2, 0, 1, 1);
    }

    private static void theFirstOfEqualOnes() {
        HomeFinder desk = desk(1, 1, 1, 1, 1);
        children(desk, 0, 0, 0, 0, 0, 0, 0);
        due("18: five beds", desk.place(false), 2);
        homes("none behind all", desk, 0, 1, 2, 3, 4, NONE, NONE);
        desk = desk(2, 6);
        children(desk, 0, 0, 0, 3, 3);
        desk.place(true);
        homes("child 0 first, then child 1", desk, 0, 0, 1, 1, 1);
        desk = desk(3, 3);
        children(desk, 1, 0, 0, 1, 0);
        desk.place(true);
        homes("child 3 goes with child 0", desk, 0, 0, 1, 0, 1);
    }

    private static void groupsAtTheirEdges() {
        HomeFinder desk = desk(1, 1, 1, 1, 1);
        children(desk, 3, 3, 3, 3, 3);
        due("18: five of a group in five homes", desk.place(false), 0);
        figures("a group counts once", desk, 5, 0, 1, 0, 0);
        desk = desk(1, 1, 1, 1, 1);
        children(desk, 0, 0, 0, 0, 0);
        desk.place(false);
        figures("GROUP 0 is none", desk, 5, 0, 0, 0, 0);
        desk = desk(1);
        children(desk, 1, 1, 1, 1, 1, 1, 1);
        due("18: one bed for a group", desk.place(false), 6);
        figures("one home and none is not two", desk, 7, 6, 0, 0, 0);
        desk = desk(1, 1);
        children(desk, 1, 2, 3);
        desk.place(false);
        figures("a GROUP of one", desk, 3, 1, 0, 0, 0);
        desk = desk(1, 1, 2);
        children(desk, 1, 1);
        desk.need(1, 30, 40, false);
        desk.place(false);
        homes("brothers and sisters on different days", desk, 0, 0);
        desk.ends(1);
        Check.read(desk, "wish 5 h0=1");
        desk.place(false);
        homes("who has no NEED has no home", desk, 1, NONE);
        figures("and parts nothing", desk, 1, 0, 0, 1, 5);
    }

    private static void movedAtItsEdges() {
        HomeFinder desk = desk(6, 1);
        children(desk, 0, 0, 0, 0, 0, 0, 0);
        desk.place(true);
        figures("nobody had a home", desk, 7, 0, 0, 0, 0);
        desk.place(true);
        figures("the same again", desk, 7, 0, 0, 0, 0);
        desk.close(0, 0);
        due("18: six without", desk.place(true), 6);
        homes("the last one stays", desk, NONE, NONE, NONE, NONE, NONE, NONE, 1);
        figures("six have none now", desk, 7, 6, 0, 6, 0);
        desk.place(true);
        figures("who had none has not moved", desk, 7, 6, 0, 0, 0);
        desk.close(0, NONE);
        due("18: open again", desk.place(true), 0);
        homes("open again", desk, 0, 0, 0, 0, 0, 0, 1);
        figures("none to a home is not moved", desk, 7, 0, 0, 0, 0);
        desk.close(0, 0);
        desk.close(1, 0);
        due("18: no home is left", desk.place(false), 7);
        figures("all have none now, also without keep", desk, 7, 7, 0, 7, 0);
    }

    /** One bed is left for a child that lost its home and one that had none: both move one. */
    private static void whoHadNoneIsNotMoved() {
        HomeFinder desk = desk(1, 1);
        children(desk, 0);
        desk.place(true);
        children(desk, 0);
        desk.close(0, 0);
        Check.read(desk, "wish 1 c1=1");
        desk.fact(false, 1, 1, 1, 0);
        due("18: one without", desk.place(true), 1);
        homes("of two with one MOVED the greater wish", desk, NONE, 1);
        figures("of two with one MOVED the greater wish", desk, 2, 1, 0, 1, 1);
    }

    private static void movedByTheLatestAlone() {
        HomeFinder desk = desk(1, 1, 1);
        children(desk, 0);
        desk.place(false);
        desk.ends(0);
        due("18: no NEED", desk.place(true), 0);
        homes("no NEED", desk, NONE);
        figures("without a NEED it has not moved", desk, 0, 0, 0, 0, 0);
        desk.need(0, 10, 20, false);
        desk.close(0, 0);
        desk.place(true);
        homes("another home", desk, 1);
        figures("it had none by the latest", desk, 1, 0, 0, 0, 0);
        desk.close(0, NONE);
        desk.place(true);
        homes("kept in home 1, where it was by the latest", desk, 1);
        desk.ends(0);
        desk.need(0, 500, 500, true);
        desk.place(true);
        homes("kept with another NEED", desk, 1);
        desk.place(false);
        homes("not kept", desk, 0);
        figures("not kept", desk, 1, 0, 0, 1, 0);
    }

    private static void keepAheadOfAnyPlacing() {
        HomeFinder keep = Desks.full();
        HomeFinder free = Desks.full();
        due("18: again", keep.place(true), 0);
        due("18: again", free.place(false), 0);
        for (int child = 0; child < 7; child++) {
            due("18: the best stays the best", keep.at(child), free.at(child));
        }
        HomeFinder desk = desk(1, 1);
        children(desk, 0, 0);
        Check.read(desk, "wish 4 h0=1 and c1=0");
        desk.fact(false, 1, 1, 1, 0);
        due("18: to KEEP ahead of any", desk.place(true), 0);
        homes("to KEEP ahead of any", desk, 1, 0);
        figures("to KEEP ahead of any", desk, 2, 0, 0, 0, 4);
    }

    private static void atWhenNeedsChanged() {
        HomeFinder desk = desk(1, 6);
        children(desk, 0, 0);
        due("19: ahead of any", desk.at(0), NONE);
        desk.place(false);
        homes("placed", desk, 0, 1);
        desk.need(1, 800, 810, true);
        desk.ends(0);
        desk.close(0, 0);
        Check.read(desk, "must 1=2;night 1=2");
        homes("also when NEEDS changed since", desk, 0, 1);
        desk.child(0);
        due("19: who came since", desk.at(2), NONE);
        desk.need(2, 10, 20, false);
        due("19: and has a NEED", desk.at(2), NONE);
        due("18: nothing fits any more", desk.place(false), 2);
        homes("the latest placing", desk, NONE, NONE, NONE);
    }

    private static void placedStaysAsItWas() {
        HomeFinder desk = desk(1, 1);
        children(desk, 1, 1, 0);
        Check.read(desk, "wish 3 1=1");
        due("18: one without", desk.place(false), 1);
        figures("as it was made", desk, 3, 1, 0, 0, 6);
        desk.ends(0);
        desk.child(1);
        desk.need(3, 10, 20, false);
        Check.read(desk, "must 1=2");
        desk.close(0, 0);
        figures("when something changed since", desk, 3, 1, 0, 0, 6);
        due("18: three without", desk.place(false), 3);
        figures("the latest", desk, 3, 3, 0, 1, 0);
    }

    private static void bedsByNeedsAsTheyAre() {
        HomeFinder desk = desk(1);
        for (int child = 0; child < 7; child++) {
            children(desk, 0);
            desk.need(child, child, child, false);
        }
        due("21: ahead of any placing", desk.beds(0, 0), 0);
        desk.place(false);
        for (int day = 0; day < 7; day++) {
            due("21: one a day", desk.beds(0, day), 1);
        }
        due("21: none", desk.beds(0, 7), 0);
        for (int child = 0; child < 7; child++) {
            desk.need(child, 999, 999, false);
            due("21: more than there are beds", desk.beds(0, 999), child + 1);
            due("21: on its day no more", desk.beds(0, child), 0);
        }
        desk.close(0, 0);
        due("21: CLOSED since", desk.beds(0, 999), 7);
        desk.ends(3);
        due("21: one NEED ended", desk.beds(0, 999), 6);
        desk.home(6);
        due("21: a home that came since", desk.beds(1, 999), 0);
    }

    private static HomeFinder placed(int first, int last) {
        HomeFinder desk = desk(6, 6);
        children(desk, 0);
        desk.need(0, first, last, false);
        desk.place(false);
        return desk;
    }

    private static void reviewAtTheLastDays() {
        int[][] due = {{0, 6, NONE, NONE}, {0, 7, 7, NONE}, {0, 27, 7, NONE}, {0, 28, 7, 28},
            {0, 59, 7, 28}, {100, 159, 107, 128}, {940, 999, 947, 968}, {971, 999, 978, 999},
            {972, 999, 979, NONE}, {992, 999, 999, NONE}, {993, 999, NONE, NONE},
            {999, 999, NONE, NONE}};
        for (int[] row : due) {
            HomeFinder desk = placed(row[0], row[1]);
            String need = " of a NEED from " + row[0] + " to " + row[1];
            due("22: the first" + need, desk.review(0, 0), row[2]);
            due("22: the second" + need, desk.review(0, 1), row[3]);
            due("22: no third" + need, desk.review(0, 2), NONE);
            for (int behind : new int[] {7, 28}) {
                int day = row[0] + behind;
                int want = day > 999 ? NONE : day <= row[1] ? 1 : 0;
                due("23: on day " + day + need, desk.reviews(day), want);
            }
        }
        HomeFinder desk = placed(0, 59);
        desk.child(0);
        desk.need(1, 0, 59, false);
        due("22: a child that is not placed", desk.review(1, 0), NONE);
        due("23: one is placed", desk.reviews(7), 1);
        desk.ends(0);
        due("22: placed, without a NEED", desk.review(0, 0), NONE);
        due("23: placed, without a NEED", desk.reviews(7), 0);
    }

    /** Every k for which 28 + 90 * (k - 1) wraps around in 32 bits to a day of the need. */
    private static void reviewsThatWrapAround() {
        HomeFinder desk = placed(0, 59);
        BigInteger half = BigInteger.ONE.shiftLeft(31);
        BigInteger inverse = BigInteger.valueOf(45).modInverse(half);
        for (int behind = 0; behind < 60; behind += 2) {
            BigInteger steps = BigInteger.valueOf((behind - 28) / 2).multiply(inverse).mod(half);
            int k = steps.intValue() + 1;
            CHECK.due("the wrap itself", 28 + 90 * (k - 1), behind);
            due("22: review(0, " + k + ")", desk.review(0, k), k == 1 ? 28 : NONE);
            due("22: review(0, " + (k + (1 << 31)) + ")", desk.review(0, k + (1 << 31)), NONE);
        }
        for (int k = 2; k < 40; k++) {
            due("22: behind the last", desk.review(0, k), NONE);
            due("22: below 0", desk.review(0, 1 - k), NONE);
        }
    }

    private static void reviewsOfAll() {
        HomeFinder desk = desk(6, 6);
        children(desk, 1, 1, 1, 2, 2, 0, 0);
        for (int child = 0; child < 7; child++) {
            desk.need(child, 200, 259, child % 2 == 0);
        }
        due("23: ahead of any placing", desk.reviews(207), 0);
        desk.place(false);
        for (int day = 199; day <= 261; day++) {
            due("23: on day " + day, desk.reviews(day), day == 207 || day == 228 ? 7 : 0);
        }
        for (int behind : new int[] {118, 208, 298}) {
            due("23: every 90 days lies behind a NEED", desk.reviews(200 + behind), 0);
        }
        desk.need(0, 221, 259, false);
        due("23: the 7th of one on the 28th of the others", desk.reviews(228), 7);
        due("23: the 7th of the others", desk.reviews(207), 6);
        desk.need(0, 222, 259, false);
        due("23: a day later", desk.reviews(228), 6);
        due("23: that day", desk.reviews(229), 1);
    }
}
