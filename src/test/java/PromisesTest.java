/** Promises 1 to 13, 19 and 21 to 24: what is told, kept and looked up. */
public final class PromisesTest {
    private static final int NONE = HomeFinder.NONE;
    private static final Check CHECK = new Check();

    private PromisesTest() { }

    public static void main(String[] args) {
        newObject();
        clock();
        child();
        home();
        fact();
        wrongFacts();
        value();
        valueAsKnown();
        paper();
        until();
        close();
        need();
        ends();
        feed();
        end();
        atAndBeds();
        review();
        reviews();
        count();
        objectsStandAlone();
        CHECK.finish();
    }

    private static void due(String call, int got, int want) {
        CHECK.due(call, got, want);
    }

    private static void due(String call, boolean got, boolean want) {
        CHECK.due(call, got, want);
    }

    private static void newObject() {
        due("1: NONE", HomeFinder.NONE, -1);
        HomeFinder desk = new HomeFinder();
        for (int what = 0; what < 7; what++) {
            due("1: count of a new object " + what, desk.count(what), 0);
        }
        for (int what = 0; what < 5; what++) {
            due("1: placed of a new object", desk.placed(what), NONE);
        }
        due("1: no child", desk.at(0), NONE);
        due("1: no home", desk.until(0, 0), NONE);
        due("1: no rules in an empty text", desk.rules(), 0);
    }

    private static void clock() {
        HomeFinder desk = new HomeFinder();
        due("2: a day ahead of 0", desk.clock(-1), false);
        due("2: its own day", desk.clock(0), true);
        due("2: a later day", desk.clock(5), true);
        due("2: its own day again", desk.clock(5), true);
        due("2: back", desk.clock(4), false);
        due("2: nothing happened", desk.count(5), 5);
        due("2: behind the last", desk.clock(1000), false);
        due("2: far off", desk.clock(Integer.MAX_VALUE), false);
        due("2: far off below", desk.clock(Integer.MIN_VALUE), false);
        due("2: still 5", desk.count(5), 5);
        due("2: the last", desk.clock(999), true);
        due("2: tells 999", desk.count(5), 999);
    }

    private static void child() {
        HomeFinder desk = new HomeFinder();
        due("3: group 4", desk.child(4), NONE);
        due("3: group -1", desk.child(-1), NONE);
        due("3: far off", desk.child(Integer.MIN_VALUE), NONE);
        due("3: none came", desk.count(0), 0);
        for (int i = 0; i < 7; i++) {
            due("3: child " + i, desk.child(i % 4), i);
        }
        due("3: the eighth", desk.child(0), NONE);
        due("3: seven came", desk.count(0), 7);
    }

    private static void home() {
        HomeFinder desk = new HomeFinder();
        due("4: no beds", desk.home(0), NONE);
        due("4: seven beds", desk.home(7), NONE);
        due("4: far off", desk.home(Integer.MAX_VALUE), NONE);
        due("4: below 0", desk.home(-1), NONE);
        due("4: none came", desk.count(1), 0);
        int[] beds = {1, 6, 2, 3, 5};
        for (int i = 0; i < 5; i++) {
            due("4: home " + i, desk.home(beds[i]), i);
        }
        due("4: the sixth", desk.home(1), NONE);
        due("4: five came", desk.count(1), 5);
    }

    private static void fact() {
        HomeFinder desk = new HomeFinder();
        desk.child(0);
        desk.home(1);
        due("5: of a child", desk.fact(false, 0, 0, -999, 0), 1);
        due("5: of a home", desk.fact(true, 0, 7, 9999, 999), 2);
        due("5: the same again", desk.fact(true, 0, 7, 9999, 999), 3);
        for (int i = 4; i <= 100; i++) {
            due("5: number " + i, desk.fact(i % 2 == 0, 0, i % 8, i, i), i);
        }
        due("5: there are 100", desk.fact(false, 0, 0, 0, 0), NONE);
        due("5: 100 are counted", desk.count(2), 100);
    }

    private static void wrongFacts() {
        HomeFinder desk = new HomeFinder();
        due("5: no child", desk.fact(false, 0, 0, 1, 1), NONE);
        due("5: no home", desk.fact(true, 0, 0, 1, 1), NONE);
        desk.child(0);
        desk.child(0);
        desk.home(1);
        due("5: a child is no home", desk.fact(true, 1, 0, 1, 1), NONE);
        due("5: child -1", desk.fact(false, -1, 0, 1, 1), NONE);
        due("5: child 2", desk.fact(false, 2, 0, 1, 1), NONE);
        due("5: field -1", desk.fact(false, 0, -1, 1, 1), NONE);
        due("5: field 8", desk.fact(false, 0, 8, 1, 1), NONE);
        due("5: number -1000", desk.fact(false, 0, 0, -1000, 1), NONE);
        due("5: number 10000", desk.fact(false, 0, 0, 10000, 1), NONE);
        due("5: day -1", desk.fact(false, 0, 0, 1, -1), NONE);
        due("5: day 1000", desk.fact(false, 0, 0, 1, 1000), NONE);
        due("5: none came", desk.count(2), 0);
    }

    private static void value() {
        HomeFinder desk = new HomeFinder();
        desk.child(0);
        desk.child(0);
        desk.home(1);
        due("6: 0 at first", desk.value(false, 0, 0, 0, 0), 0);
        desk.fact(false, 0, 3, 10, 20);
        desk.fact(false, 0, 3, 11, 40);
        desk.fact(false, 0, 3, 12, 30);
        desk.fact(false, 0, 3, 13, 30);
        due("6: ahead of the first", desk.value(false, 0, 3, 19, 0), 0);
        due("6: from its day on", desk.value(false, 0, 3, 20, 0), 10);
        due("6: up to the next", desk.value(false, 0, 3, 29, 0), 10);
        due("6: of one day the last told", desk.value(false, 0, 3, 30, 0), 13);
        due("6: up to the latest", desk.value(false, 0, 3, 39, 0), 13);
        due("6: the latest, not the last told", desk.value(false, 0, 3, 40, 0), 11);
        due("6: for good", desk.value(false, 0, 3, 999, 999), 11);
        due("6: another child", desk.value(false, 1, 3, 999, 0), 0);
        due("6: another field", desk.value(false, 0, 4, 999, 0), 0);
        due("6: a home's field", desk.value(true, 0, 3, 999, 0), 0);
        due("6: no child", desk.value(false, 2, 0, 0, 0), -1000);
        due("6: child -1", desk.value(false, -1, 0, 0, 0), -1000);
        due("6: no home", desk.value(true, 1, 0, 0, 0), -1000);
        due("6: no field", desk.value(false, 0, 8, 0, 0), -1000);
        due("6: field -1", desk.value(false, 0, -1, 0, 0), -1000);
        due("6: day -1", desk.value(false, 0, 0, -1, 0), -1000);
        due("6: day 1000", desk.value(false, 0, 0, 1000, 0), -1000);
        due("6: known -1", desk.value(false, 0, 0, 0, -1), -1000);
        due("6: known 1000", desk.value(false, 0, 0, 0, 1000), -1000);
    }

    private static void valueAsKnown() {
        HomeFinder desk = new HomeFinder();
        desk.home(1);
        desk.clock(10);
        desk.fact(true, 0, 0, 1, 5);
        desk.clock(20);
        desk.fact(true, 0, 0, 2, 5);
        desk.fact(true, 0, 0, 3, 3);
        due("6: not yet known", desk.value(true, 0, 0, 50, 9), 0);
        due("6: known from then on", desk.value(true, 0, 0, 50, 10), 1);
        due("6: ahead of the second", desk.value(true, 0, 0, 50, 19), 1);
        due("6: mended later", desk.value(true, 0, 0, 50, 20), 2);
        due("6: as known in days to come", desk.value(true, 0, 0, 50, 999), 2);
        due("6: an earlier day, known late", desk.value(true, 0, 0, 4, 20), 3);
        due("6: an earlier day, known early", desk.value(true, 0, 0, 4, 19), 0);
    }

    private static void paper() {
        HomeFinder desk = new HomeFinder();
        due("7: no home", desk.paper(0, 1, 2), NONE);
        desk.home(1);
        desk.home(1);
        due("7: home -1", desk.paper(-1, 1, 2), NONE);
        due("7: the first day behind the last", desk.paper(0, 3, 2), NONE);
        due("7: day -1", desk.paper(0, -1, 2), NONE);
        due("7: day 1000", desk.paper(0, 1, 1000), NONE);
        due("7: none came", desk.count(3), 0);
        due("7: one day", desk.paper(0, 2, 2), 0);
        due("7: all days", desk.paper(1, 0, 999), 1);
        for (int i = 2; i < 30; i++) {
            due("7: paper " + i, desk.paper(i % 2, i, i + 1), i);
        }
        due("7: there are 30", desk.paper(0, 1, 2), NONE);
        due("7: 30 are counted", desk.count(3), 30);
    }

    private static void until() {
        HomeFinder desk = new HomeFinder();
        desk.home(1);
        desk.home(1);
        due("8: no paper", desk.until(0, 0), NONE);
        desk.paper(0, 10, 20);
        desk.paper(0, 15, 30);
        desk.paper(0, 15, 25);
        desk.paper(0, 31, 40);
        desk.paper(1, 0, 999);
        due("8: ahead", desk.until(0, 9), NONE);
        due("8: the first day", desk.until(0, 10), 20);
        due("8: the latest of three", desk.until(0, 15), 30);
        due("8: its last day", desk.until(0, 30), 30);
        due("8: another paper", desk.until(0, 31), 40);
        due("8: behind", desk.until(0, 41), NONE);
        due("8: the other home", desk.until(1, 41), 999);
        due("8: no home", desk.until(2, 41), NONE);
        due("8: home -1", desk.until(-1, 41), NONE);
        due("8: day -1", desk.until(1, -1), NONE);
        due("8: day 1000", desk.until(1, 1000), NONE);
    }

    private static void close() {
        HomeFinder desk = new HomeFinder();
        due("9: no home", desk.close(0, 5), false);
        desk.home(1);
        desk.child(0);
        desk.paper(0, 0, 999);
        desk.need(0, 10, 20, false);
        due("9: home -1", desk.close(-1, 5), false);
        due("9: home 1", desk.close(1, 5), false);
        due("9: a day", desk.close(0, 15), true);
        due("9: closed", desk.barred(0, 0), 15);
        due("9: day -2", desk.close(0, -2), false);
        due("9: day 1000", desk.close(0, 1000), false);
        due("9: nothing happened", desk.barred(0, 0), 15);
        due("9: told anew", desk.close(0, 18), true);
        due("9: in place of the one ahead", desk.barred(0, 0), 18);
        due("9: earlier than the need", desk.close(0, 0), true);
        due("9: on its first day", desk.barred(0, 0), 10);
        due("9: no more", desk.close(0, NONE), true);
        due("9: open", desk.bars(0, 0), 0);
        due("9: no more again", desk.close(0, NONE), true);
        due("9: the last day", desk.close(0, 999), true);
        due("9: open till then", desk.bars(0, 0), 0);
    }

    private static void need() {
        HomeFinder desk = new HomeFinder();
        due("10: no child", desk.need(0, 1, 2, false), false);
        desk.child(0);
        desk.home(1);
        due("10: child -1", desk.need(-1, 1, 2, false), false);
        due("10: child 1", desk.need(1, 1, 2, false), false);
        due("10: the first behind the last", desk.need(0, 3, 2, false), false);
        due("10: day -1", desk.need(0, -1, 2, false), false);
        due("10: day 1000", desk.need(0, 990, 1000, false), false);
        due("10: 61 days", desk.need(0, 10, 70, false), false);
        due("10: far off", desk.need(0, Integer.MIN_VALUE, Integer.MAX_VALUE, true), false);
        due("10: nothing happened", desk.bars(0, 0), NONE);
        due("10: 60 days", desk.need(0, 10, 69, false), true);
        due("10: there is a need", desk.barred(0, 0), 10);
        due("10: one day", desk.need(0, 999, 999, true), true);
        due("10: in place of the one ahead", desk.barred(0, 0), 999);
        due("10: day 0", desk.need(0, 0, 0, true), true);
        due("10: wrong", desk.need(0, 0, 60, true), false);
        due("10: that ahead stays", desk.barred(0, 0), 0);
    }

    private static void ends() {
        HomeFinder desk = new HomeFinder();
        due("11: no child", desk.ends(0), false);
        desk.child(0);
        desk.home(1);
        due("11: no need", desk.ends(0), false);
        desk.need(0, 1, 2, false);
        due("11: child -1", desk.ends(-1), false);
        due("11: child 1", desk.ends(1), false);
        due("11: it had one", desk.ends(0), true);
        due("11: has none any more", desk.bars(0, 0), NONE);
        due("11: again", desk.ends(0), false);
        desk.need(0, 1, 2, false);
        due("11: a new one", desk.ends(0), true);
    }

    private static void feed() {
        HomeFinder desk = new HomeFinder();
        // The highest byte first: "must c0=1" and a byte that can't stand behind it.
        due("12: twenty", desk.feed(0x6d757374, 0x2063303d, 0x31ff2020, 0x20202020, 0x20202020), 20);
        due("12: the order of bytes", desk.rules(), -2 - (1 + 8 * 9));
        for (int i = 1; i <= 25; i++) {
            due("12: feed " + i, desk.feed(0, 0, 0, 0, 0), 20 * i);
        }
        due("12: more than 500", desk.feed(0, 0, 0, 0, 0), NONE);
        due("12: none comes", desk.count(6), 500);
        desk.end(481);
        due("12: 501 would be too many", desk.feed(0, 0, 0, 0, 0), NONE);
        due("12: still none", desk.count(6), 481);
        desk.end(480);
        due("12: 500 is well", desk.feed(0, 0, 0, 0, 0), 500);
        desk.end(0);
        // "must c0=1" over all five numbers, so that each has its own place.
        desk.feed(0x20202020, 0x20206d75, 0x73742063, 0x303d3120, 0x20202020);
        due("12: five numbers", desk.rules(), 1);
    }

    private static void end() {
        HomeFinder desk = new HomeFinder();
        due("13: none of none", desk.end(0), 0);
        due("13: not so many", desk.end(1), NONE);
        desk.feed(0x6d757374, 0x2063303d, 0x31000000, 0, 0);
        due("13: below 0", desk.end(-1), NONE);
        due("13: 21 of 20", desk.end(21), NONE);
        due("13: far off", desk.end(Integer.MIN_VALUE), NONE);
        due("13: nothing happened", desk.count(6), 20);
        due("13: all of them", desk.end(20), 20);
        due("13: the first nine", desk.end(9), 9);
        due("13: nine", desk.count(6), 9);
        due("13: behind them", desk.feed(0x20616e64, 0x2068303d, 0x30202020, 0x20202020, 0x20202020),
                29);
        due("13: the text is whole", desk.rules(), 1);
    }

    /** Two homes of one bed each, three children whose needs all meet on day 20. */
    private static HomeFinder placedDesk() {
        HomeFinder desk = new HomeFinder();
        desk.home(1);
        desk.home(1);
        desk.paper(0, 0, 999);
        desk.paper(1, 0, 999);
        for (int child = 0; child < 3; child++) {
            desk.child(0);
            desk.need(child, 10 + child, 50, false);
        }
        desk.place(false);
        return desk;
    }

    private static void atAndBeds() {
        HomeFinder desk = placedDesk();
        due("19: child 0", desk.at(0), 0);
        due("19: child 1", desk.at(1), 1);
        due("19: child 2", desk.at(2), NONE);
        due("19: no such child", desk.at(3), NONE);
        due("19: child -1", desk.at(-1), NONE);
        due("19: far off", desk.at(Integer.MAX_VALUE), NONE);
        due("21: ahead of the need", desk.beds(0, 9), 0);
        due("21: its first day", desk.beds(0, 10), 1);
        due("21: its last day", desk.beds(0, 50), 1);
        due("21: behind it", desk.beds(0, 51), 0);
        due("21: the other home", desk.beds(1, 10), 0);
        due("21: no home", desk.beds(2, 10), NONE);
        due("21: home -1", desk.beds(-1, 10), NONE);
        due("21: day -1", desk.beds(0, -1), NONE);
        due("21: day 1000", desk.beds(0, 1000), NONE);
        desk.ends(0);
        due("19: when the need ended", desk.at(0), 0);
        due("21: the need ended", desk.beds(0, 10), 0);
        desk.need(0, 100, 101, false);
        due("19: when the need changed", desk.at(0), 0);
        due("21: needs as they are", desk.beds(0, 100), 1);
        desk.child(0);
        desk.need(3, 100, 101, false);
        due("19: a child that came later", desk.at(3), NONE);
        due("21: is not placed", desk.beds(0, 100), 1);
        desk.ends(0);
        desk.place(false);
        due("19: no need, no home", desk.at(0), NONE);
        HomeFinder fresh = new HomeFinder();
        fresh.home(1);
        due("21: ahead of any placing", fresh.beds(0, 0), 0);
    }

    private static void review() {
        HomeFinder desk = placedDesk();
        due("22: the first", desk.review(0, 0), 17);
        due("22: the second", desk.review(0, 1), 38);
        due("22: not behind the last", desk.review(0, 2), NONE);
        due("22: k -1", desk.review(0, -1), NONE);
        due("22: far off", desk.review(0, Integer.MAX_VALUE), NONE);
        due("22: far off below", desk.review(0, Integer.MIN_VALUE), NONE);
        due("22: child 1", desk.review(1, 0), 18);
        due("22: not placed", desk.review(2, 0), NONE);
        due("22: no such child", desk.review(3, 0), NONE);
        due("22: child -1", desk.review(-1, 0), NONE);
        desk.need(0, 10, 16, false);
        due("22: a short need has none", desk.review(0, 0), NONE);
        desk.need(0, 10, 17, false);
        due("22: on its last day", desk.review(0, 0), 17);
        due("22: but one", desk.review(0, 1), NONE);
        desk.need(0, 10, 37, false);
        due("22: a day too short", desk.review(0, 1), NONE);
        desk.need(0, 10, 38, false);
        due("22: the second on the last day", desk.review(0, 1), 38);
        desk.need(0, 200, 259, false);
        due("22: the need as it is", desk.review(0, 0), 207);
        due("22: the third lies behind 60 days", desk.review(0, 2), NONE);
        desk.ends(0);
        due("22: without a need", desk.review(0, 0), NONE);
    }

    private static void reviews() {
        HomeFinder desk = placedDesk();
        due("23: of child 0", desk.reviews(17), 1);
        due("23: of child 1", desk.reviews(18), 1);
        due("23: child 2 is not placed", desk.reviews(19), 0);
        due("23: the second", desk.reviews(38), 1);
        due("23: none", desk.reviews(20), 0);
        due("23: day -1", desk.reviews(-1), NONE);
        due("23: day 1000", desk.reviews(1000), NONE);
        due("23: day 999", desk.reviews(999), 0);
        desk.need(1, 31, 60, false);
        due("23: two on one day", desk.reviews(38), 2);
        desk.ends(0);
        due("23: without a need", desk.reviews(17), 0);
        due("23: ahead of any placing", new HomeFinder().reviews(7), 0);
    }

    private static void count() {
        HomeFinder desk = new HomeFinder();
        desk.clock(6);
        desk.child(1);
        desk.child(1);
        desk.home(1);
        desk.home(1);
        desk.home(1);
        for (int i = 0; i < 4; i++) {
            desk.fact(false, 0, 0, i, 1);
        }
        for (int i = 0; i < 5; i++) {
            desk.paper(0, i, i);
        }
        Check.read(desk, "must 1=1;wish 7 1=1;night 1=1");
        desk.feed(0, 0, 0, 0, 0);
        int[] want = {2, 3, 4, 5, 3, 6, 20};
        for (int what = 0; what < want.length; what++) {
            due("24: count(" + what + ")", desk.count(what), want[what]);
        }
        due("24: count(-1)", desk.count(-1), NONE);
        due("24: count(7)", desk.count(7), NONE);
        due("24: far off", desk.count(Integer.MIN_VALUE), NONE);
    }

    private static void objectsStandAlone() {
        HomeFinder one = placedDesk();
        HomeFinder other = new HomeFinder();
        due("1: nothing of another object", other.count(0), 0);
        other.clock(50);
        other.home(3);
        due("1: nothing for another object", one.count(5), 0);
        due("1: its homes stay", one.count(1), 2);
    }
}
