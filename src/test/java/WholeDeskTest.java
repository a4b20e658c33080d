/** Every call on the empty object and on the full one, and an object's last calls. */
public final class WholeDeskTest {
    private static final int NONE = HomeFinder.NONE;
    private static final Check CHECK = new Check();

    private WholeDeskTest() { }

    public static void main(String[] args) {
        emptyObject();
        emptyObjectTakesNothing();
        fullObject();
        fullObjectTakesNoMore();
        fullObjectStillWorks();
        lastCalls();
        CHECK.finish();
    }

    private static void due(String call, int got, int want) {
        CHECK.due(call, got, want);
    }

    private static void due(String call, boolean got, boolean want) {
        CHECK.due(call, got, want);
    }

    private static void emptyObject() {
        due("2: clock", Desks.empty().clock(0), true);
        due("3: child", Desks.empty().child(0), 0);
        due("4: home", Desks.empty().home(1), 0);
        due("12: feed", Desks.empty().feed(0, 0, 0, 0, 0), 20);
        due("13: end", Desks.empty().end(0), 0);
        due("14: rules", Desks.empty().rules(), 0);
        due("18: place", Desks.empty().place(false), 0);
        due("18: place to keep", Desks.empty().place(true), 0);
        due("23: reviews", Desks.empty().reviews(0), 0);
        for (int what = 0; what < 7; what++) {
            due("24: count", Desks.empty().count(what), 0);
        }
    }

    private static void emptyObjectTakesNothing() {
        HomeFinder desk = Desks.empty();
        due("5: fact of a child", desk.fact(false, 0, 0, 0, 0), NONE);
        due("5: fact of a home", desk.fact(true, 0, 0, 0, 0), NONE);
        due("6: value of a child", desk.value(false, 0, 0, 0, 0), -1000);
        due("6: value of a home", desk.value(true, 0, 0, 0, 0), -1000);
        due("7: paper", desk.paper(0, 0, 0), NONE);
        due("8: until", desk.until(0, 0), NONE);
        due("9: close", desk.close(0, 0), false);
        due("9: close no more", desk.close(0, NONE), false);
        due("10: need", desk.need(0, 0, 0, false), false);
        due("11: ends", desk.ends(0), false);
        due("13: end", desk.end(1), NONE);
        due("15: bars", desk.bars(0, 0), NONE);
        due("16: barred", desk.barred(0, 0), NONE);
        due("17: wish", desk.wish(0, 0), NONE);
        due("19: at", desk.at(0), NONE);
        due("20: placed", desk.placed(0), NONE);
        due("21: beds", desk.beds(0, 0), NONE);
        due("22: review", desk.review(0, 0), NONE);
        CHECK.same("1: it is as new", State.of(desk), State.of(Desks.empty()));
    }

    private static void fullObject() {
        HomeFinder desk = Desks.full();
        int[] want = {7, 5, 100, 30, 20, 3, 500};
        for (int what = 0; what < 7; what++) {
            due("24: count " + what, desk.count(what), want[what]);
        }
        for (int child = 0; child < 7; child++) {
            for (int home = 0; home < 5; home++) {
                due("15: all fit", desk.bars(child, home), 0);
                due("17: all is wished", desk.wish(child, home), 2 + 5 + 8 + 11 + 14 + 17 + 20);
            }
        }
        int[] at = {0, 0, 2, 2, 3, 3, 1};
        for (int child = 0; child < 7; child++) {
            due("19: at " + child, desk.at(child), at[child]);
        }
        int[] figures = {7, 0, 0, 0, 7 * 77};
        for (int what = 0; what < 5; what++) {
            due("20: placed " + what, desk.placed(what), figures[what]);
        }
        int[] beds = {2, 1, 2, 2, 0};
        for (int home = 0; home < 5; home++) {
            due("8: the latest of six papers", desk.until(home, 50), 125 + home);
            due("21: beds of " + home, desk.beds(home, 99), beds[home]);
        }
        due("23: seven on one day", desk.reviews(68), 7);
    }

    private static void fullObjectTakesNoMore() {
        HomeFinder desk = Desks.full();
        due("3: child", desk.child(1), NONE);
        due("4: home", desk.home(1), NONE);
        due("5: fact of a child", desk.fact(false, 0, 0, 1, 0), NONE);
        due("5: fact of a home", desk.fact(true, 0, 0, 1, 0), NONE);
        due("7: paper", desk.paper(0, 0, 999), NONE);
        due("12: feed", desk.feed(0, 0, 0, 0, 0), NONE);
        CHECK.same("nothing of these came", State.of(desk), State.of(Desks.full()));
    }

    private static void fullObjectStillWorks() {
        HomeFinder desk = Desks.full();
        due("14: its tape", desk.rules(), 20);
        due("12: has room then", desk.feed(0, 0, 0, 0, 0), 20);
        due("2: its clock", desk.clock(999), true);
        due("9: a home closes", desk.close(0, 99), true);
        due("18: two have to move", desk.place(true), 0);
        due("20: two moved", desk.placed(3), 2);
        due("19: together", desk.at(0), 3);
        due("19: together", desk.at(1), 3);
        due("11: a need ends", desk.ends(6), true);
        due("10: a need anew", desk.need(6, 0, 59, true), true);
        due("15: no PAPER of home 4 on day 0", desk.bars(6, 4), 2);
        due("14: no RULES", Check.read(desk, ""), -2 - 1);
        due("14: no RULES", desk.rules(), 0);
        due("5: there are 100 all the same", desk.fact(true, 0, 0, 1, 0), NONE);
    }

    /** An object is used for 512 calls: the last of them is answered as the first. */
    private static void lastCalls() {
        HomeFinder desk = Desks.empty();
        for (int call = 1; call <= 508; call++) {
            desk.clock(call);
        }
        due("3: call 509", desk.child(3), 0);
        due("4: call 510", desk.home(6), 0);
        due("10: call 511", desk.need(0, 900, 959, false), true);
        due("18: call 512", desk.place(true), 1);
    }
}
