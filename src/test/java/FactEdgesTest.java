/** Promises 1 to 11, sentence by sentence: what stands at the edges that "Terms" I names. */
public final class FactEdgesTest {
    private static final int NONE = HomeFinder.NONE;
    private static final Check CHECK = new Check();

    private FactEdgesTest() { }

    public static void main(String[] args) {
        newObjectHasNothing();
        clockAtItsEdges();
        fieldsAreZeroAtFirst();
        everyFieldStandsAlone();
        factsByDays();
        factsAsKnown();
        factsToldOnOneDay();
        hundredFacts();
        thirtyPapers();
        papersByDays();
        untilIsTheLatest();
        closedByDays();
        needToldAnew();
        needEndsAndComesBack();
        CHECK.finish();
    }

    private static void due(String call, int got, int want) {
        CHECK.due(call, got, want);
    }

    private static void due(String call, boolean got, boolean want) {
        CHECK.due(call, got, want);
    }

    private static void newObjectHasNothing() {
        HomeFinder desk = new HomeFinder();
        due("1: no children", desk.count(0), 0);
        due("1: no HOMES", desk.count(1), 0);
        due("1: no RULES", desk.count(4), 0);
        due("1: the clock tells 0", desk.count(5), 0);
        due("1: no FACTS", desk.count(2), 0);
        due("1: no PAPERS", desk.count(3), 0);
        due("1: an empty TAPE", desk.count(6), 0);
        due("1: child 0 is not there", desk.value(false, 0, 0, 0, 0), -1000);
        due("1: home 0 is not there", desk.value(true, 0, 0, 0, 0), -1000);
        due("1: no placing", desk.placed(0), NONE);
        due("1: nobody to place", desk.place(true), 0);
        due("1: the first child is 0", desk.child(0), 0);
        due("1: the first home is 0", desk.home(1), 0);
        due("1: the first paper is 0", desk.paper(0, 0, 999), 0);
        due("1: a child comes without a need", desk.ends(0), false);
        desk.need(0, 0, 59, false);
        due("1: a home comes open, no RULE bars it", desk.bars(0, 0), 0);
        due("1: no RULE wishes it", desk.wish(0, 0), 0);
    }

    private static void clockAtItsEdges() {
        HomeFinder desk = new HomeFinder();
        for (int day = 0; day <= 400; day++) {
            due("2: every day in turn", desk.clock(day), true);
        }
        due("2: the day ahead of its own", desk.clock(399), false);
        due("2: day 0 does not come back", desk.clock(0), false);
        due("2: nothing happened", desk.count(5), 400);
        due("2: from its own day", desk.clock(400), true);
        due("2: to the last at once", desk.clock(999), true);
        due("2: behind the last it does not begin anew", desk.clock(1000), false);
        due("2: nor with 0", desk.clock(0), false);
        due("2: its own day, the last", desk.clock(999), true);
        due("2: tells the last", desk.count(5), 999);
    }

    private static void fieldsAreZeroAtFirst() {
        HomeFinder desk = new HomeFinder();
        for (int i = 0; i < 7; i++) {
            desk.child(0);
            desk.home(1);
        }
        for (int field = 0; field < 8; field++) {
            for (int child = 0; child < 7; child++) {
                due("6: 0 at first", desk.value(false, child, field, 999, 999), 0);
            }
            for (int home = 0; home < 5; home++) {
                due("6: 0 at first", desk.value(true, home, field, 0, 0), 0);
            }
        }
    }

    private static void everyFieldStandsAlone() {
        HomeFinder desk = Desks.full();
        for (int field = 0; field < 8; field++) {
            for (int child = 0; child < 7; child++) {
                due("6: field " + field + " of child " + child,
                        desk.value(false, child, field, 30, 3), Desks.numberOf(false, child, field));
            }
            for (int home = 0; home < 5; home++) {
                due("6: field " + field + " of home " + home,
                        desk.value(true, home, field, 30, 3), Desks.numberOf(true, home, field));
            }
        }
    }

    private static HomeFinder one() {
        HomeFinder desk = new HomeFinder();
        desk.child(0);
        desk.home(1);
        return desk;
    }

    private static void factsByDays() {
        for (boolean home : new boolean[] {false, true}) {
            HomeFinder desk = one();
            desk.fact(home, 0, 0, 5, 0);
            desk.fact(home, 0, 0, 7, 999);
            due("6: from day 0 on", desk.value(home, 0, 0, 0, 0), 5);
            due("6: up to the day ahead of the next", desk.value(home, 0, 0, 998, 0), 5);
            due("6: from the last day on", desk.value(home, 0, 0, 999, 0), 7);
            due("5: a third", desk.fact(home, 0, 0, 0, 500), 3);
            due("6: a number 0 told is told", desk.value(home, 0, 0, 500, 0), 0);
            due("6: the day ahead of it", desk.value(home, 0, 0, 499, 0), 5);
            desk.fact(home, 0, 0, -999, 200);
            due("6: the least number", desk.value(home, 0, 0, 200, 0), -999);
            desk.fact(home, 0, 0, 9999, 201);
            due("6: the least number still", desk.value(home, 0, 0, 200, 0), -999);
            due("6: the greatest number", desk.value(home, 0, 0, 201, 0), 9999);
            due("6: of the latest day though told ahead", desk.value(home, 0, 0, 999, 0), 7);
            due("6: the other one's stay 0", desk.value(!home, 0, 0, 999, 999), 0);
        }
    }

    private static void factsAsKnown() {
        HomeFinder desk = one();
        desk.fact(true, 0, 0, 1, 50);
        desk.clock(100);
        desk.fact(true, 0, 0, 2, 50);
        desk.fact(true, 0, 0, 3, 40);
        desk.clock(999);
        desk.fact(true, 0, 0, 4, 50);
        due("6: KNOWN by day 0", desk.value(true, 0, 0, 50, 0), 1);
        due("6: not yet KNOWN", desk.value(true, 0, 0, 50, 99), 1);
        due("6: KNOWN by its own day", desk.value(true, 0, 0, 50, 100), 2);
        due("6: of the latest DAY, not of the latest telling", desk.value(true, 0, 0, 60, 100), 2);
        due("6: the DAY not behind", desk.value(true, 0, 0, 49, 100), 3);
        due("6: that DAY, not yet KNOWN", desk.value(true, 0, 0, 49, 99), 0);
        due("6: ahead of the last day", desk.value(true, 0, 0, 50, 998), 2);
        due("6: KNOWN on the last day", desk.value(true, 0, 0, 50, 999), 4);
        due("6: ahead of all", desk.value(true, 0, 0, 39, 999), 0);
        due("5: how many there are", desk.count(2), 4);
    }

    private static void factsToldOnOneDay() {
        HomeFinder desk = one();
        for (int i = 1; i <= 100; i++) {
            due("5: how many", desk.fact(false, 0, 7, i, 999), i);
            due("6: of several the one told last", desk.value(false, 0, 7, 999, 0), i);
        }
        due("6: the day ahead", desk.value(false, 0, 7, 998, 0), 0);
    }

    private static void hundredFacts() {
        HomeFinder desk = one();
        for (int i = 1; i <= 99; i++) {
            desk.fact(i % 3 == 0, 0, i % 8, i, 1000 - i);
        }
        due("5: refused ones do not count", desk.fact(false, 0, 8, 1, 1), NONE);
        due("5: 99", desk.count(2), 99);
        due("5: the hundredth", desk.fact(true, 0, 5, 1234, 3), 100);
        due("6: is told", desk.value(true, 0, 5, 3, 0), 1234);
        due("5: the one behind it, of a home", desk.fact(true, 0, 5, 1, 3), NONE);
        due("5: of a child", desk.fact(false, 0, 5, 1, 3), NONE);
        due("5: of another day", desk.fact(false, 0, 5, 1, 900), NONE);
        due("5: still 100", desk.count(2), 100);
        due("6: nothing happened", desk.value(true, 0, 5, 3, 999), 1234);
        due("6: nor to the child", desk.value(false, 0, 5, 3, 999), 0);
        due("6: the first is still told", desk.value(false, 0, 1, 999, 0), 1);
        desk.clock(5);
        due("5: later there are 100 too", desk.fact(true, 0, 5, 1, 3), NONE);
        desk.home(1);
        due("5: for another home too", desk.fact(true, 1, 0, 1, 3), NONE);
    }

    private static void thirtyPapers() {
        HomeFinder desk = new HomeFinder();
        for (int home = 0; home < 5; home++) {
            desk.home(1);
        }
        for (int i = 0; i < 29; i++) {
            due("7: its number", desk.paper(i % 4, 100, 200 + i), i);
        }
        due("7: refused ones do not count", desk.paper(5, 1, 2), NONE);
        due("7: nor these", desk.paper(0, 2, 1), NONE);
        due("7: 29", desk.count(3), 29);
        due("7: the thirtieth", desk.paper(4, 999, 999), 29);
        due("7: 30", desk.count(3), 30);
        due("8: it holds", desk.until(4, 999), 999);
        for (int home = 0; home < 5; home++) {
            due("7: there are 30", desk.paper(home, 0, 999), NONE);
            due("8: nothing happened", desk.until(home, 0), NONE);
        }
        due("7: still 30", desk.count(3), 30);
        due("8: the latest of all of home 0", desk.until(0, 100), 228);
        due("8: the latest of all of home 3", desk.until(3, 100), 227);
    }

    private static void papersByDays() {
        HomeFinder desk = new HomeFinder();
        desk.home(1);
        desk.home(1);
        desk.home(1);
        desk.paper(0, 0, 0);
        desk.paper(1, 999, 999);
        desk.paper(2, 500, 501);
        due("8: a paper of day 0", desk.until(0, 0), 0);
        due("8: the day behind it", desk.until(0, 1), NONE);
        due("8: a paper of day 999", desk.until(1, 999), 999);
        due("8: the day ahead of it", desk.until(1, 998), NONE);
        due("8: ahead of the first day", desk.until(2, 499), NONE);
        due("8: on the first day", desk.until(2, 500), 501);
        due("8: on the last day", desk.until(2, 501), 501);
        due("8: behind the last day", desk.until(2, 502), NONE);
    }

    private static void untilIsTheLatest() {
        HomeFinder desk = new HomeFinder();
        desk.home(1);
        desk.clock(300);
        desk.paper(0, 10, 20);
        desk.paper(0, 20, 30);
        desk.paper(0, 19, 29);
        desk.paper(0, 31, 40);
        due("8: but one holds", desk.until(0, 18), 20);
        due("8: the first of the third", desk.until(0, 19), 29);
        due("8: all three, the latest, told neither first nor last", desk.until(0, 20), 30);
        due("8: papers that follow on each other are two", desk.until(0, 30), 30);
        due("8: the fourth", desk.until(0, 31), 40);
        desk.clock(999);
        due("8: whatever the clock tells", desk.until(0, 20), 30);
        due("9: closed", desk.close(0, 0), true);
        due("8: of a CLOSED home too", desk.until(0, 20), 30);
    }

    private static void closedByDays() {
        HomeFinder desk = one();
        desk.paper(0, 0, 999);
        desk.need(0, 0, 0, false);
        desk.close(0, 0);
        due("9: CLOSED from day 0 on", desk.bars(0, 0), 1);
        desk.close(0, 1);
        due("9: open on day 0, in place of the one ahead", desk.bars(0, 0), 0);
        desk.close(0, 0);
        due("9: told anew, earlier", desk.bars(0, 0), 1);
        desk.close(0, NONE);
        due("9: no more", desk.bars(0, 0), 0);
        desk.need(0, 999, 999, false);
        due("9: open on the last day of all", desk.bars(0, 0), 0);
        desk.close(0, 999);
        due("9: CLOSED on the last day of all", desk.bars(0, 0), 1);
        desk.close(0, 0);
        due("9: from a day on means up to the last", desk.barred(0, 0), 999);
        due("9: refused", desk.close(0, -2), false);
        due("9: it stays CLOSED", desk.bars(0, 0), 1);
        desk.home(1);
        desk.paper(1, 0, 999);
        due("9: another home is open", desk.bars(0, 1), 0);
        due("9: of a home not there", desk.close(2, 0), false);
        due("9: no more, of one not there", desk.close(2, NONE), false);
        desk.home(1);
        desk.paper(2, 0, 999);
        due("9: nothing was kept for it", desk.bars(0, 2), 0);
    }

    private static void needToldAnew() {
        HomeFinder desk = one();
        due("10: of a child not there", desk.need(1, 10, 20, false), false);
        desk.child(0);
        due("10: nothing was kept for it", desk.bars(1, 0), NONE);
        due("10: 60 days", desk.need(0, 100, 159, true), true);
        desk.paper(0, 100, 158);
        due("10: its sixtieth day counts", desk.barred(0, 0), 159);
        due("10: 61 days", desk.need(0, 100, 160, false), false);
        due("10: that ahead stays", desk.barred(0, 0), 159);
        due("10: told anew", desk.need(0, 100, 158, false), true);
        due("10: in place of the one ahead", desk.bars(0, 0), 0);
        Check.read(desk, "night 1=2");
        due("10: not by night", desk.bars(0, 0), 0);
        due("10: refused by night", desk.need(0, 158, 100, true), false);
        due("10: still not by night", desk.bars(0, 0), 0);
        due("10: by night", desk.need(0, 100, 158, true), true);
        due("10: by night", desk.bars(0, 0), 10);
        due("10: the other child has none", desk.bars(1, 0), NONE);
    }

    private static void needEndsAndComesBack() {
        HomeFinder desk = one();
        desk.child(0);
        desk.need(1, 999, 999, true);
        due("11: it had none", desk.ends(0), false);
        due("11: the other's stays", desk.barred(1, 0), 999);
        due("11: it had one", desk.ends(1), true);
        due("11: it had none any more", desk.ends(1), false);
        due("11: no NEED", desk.wish(1, 0), NONE);
        due("11: refused, so none comes back", desk.need(1, 5, 4, true), false);
        due("11: still none", desk.ends(1), false);
        due("11: a new one", desk.need(1, 0, 0, false), true);
        due("11: it counts", desk.barred(1, 0), 0);
        due("11: it ends", desk.ends(1), true);
    }
}
