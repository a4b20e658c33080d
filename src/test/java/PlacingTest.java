/** Promises 18 to 20: the best placing, and what is told of it. */
public final class PlacingTest {
    private static final int NONE = HomeFinder.NONE;
    private static final Check CHECK = new Check();

    private PlacingTest() { }

    public static void main(String[] args) {
        nothingToPlace();
        firstOfAll();
        bedsByDays();
        fewestWithoutAheadOfGroups();
        groupsAheadOfMoves();
        movesAheadOfWishes();
        wishesAheadOfOrder();
        noneBehindAll();
        groupsParted();
        moved();
        needsThatEnded();
        onlyHomesThatFit();
        largest();
        CHECK.finish();
    }

    private static void due(String call, int got, int want) {
        CHECK.due(call, got, want);
    }

    /** Homes with these beds, all with a paper for all days; field 0 of each is its number. */
    private static HomeFinder desk(int... beds) {
        HomeFinder desk = new HomeFinder();
        for (int home = 0; home < beds.length; home++) {
            desk.home(beds[home]);
            desk.paper(home, 0, 999);
            desk.fact(true, home, 0, home, 0);
        }
        return desk;
    }

    private static void children(HomeFinder desk, int... groups) {
        for (int group : groups) {
            desk.need(desk.child(group), 10, 20, false);
        }
    }

    private static void homes(String what, HomeFinder desk, int... want) {
        for (int child = 0; child < want.length; child++) {
            due(what + ", at(" + child + ")", desk.at(child), want[child]);
        }
    }

    private static void figures(String what, HomeFinder desk, int... want) {
        for (int i = 0; i < want.length; i++) {
            due(what + ", placed(" + i + ")", desk.placed(i), want[i]);
        }
    }

    private static void nothingToPlace() {
        HomeFinder desk = new HomeFinder();
        figures("20: ahead of any", desk, NONE, NONE, NONE, NONE, NONE);
        due("18: no children", desk.place(true), 0);
        figures("20: no children", desk, 0, 0, 0, 0, 0);
        due("20: what -1", desk.placed(-1), NONE);
        due("20: what 5", desk.placed(5), NONE);
        due("20: far off", desk.placed(Integer.MIN_VALUE), NONE);
        desk.child(0);
        due("18: no needs", desk.place(false), 0);
        desk.need(0, 1, 2, false);
        due("18: no homes", desk.place(false), 1);
        figures("20: no homes", desk, 1, 1, 0, 0, 0);
        desk.ends(0);
        figures("20: as it was made", desk, 1, 1, 0, 0, 0);
    }

    private static void firstOfAll() {
        HomeFinder desk = desk(2, 1, 6);
        children(desk, 0, 0, 0, 0);
        due("18: all find a home", desk.place(false), 0);
        homes("18: the first", desk, 0, 0, 1, 2);
        figures("20: the first", desk, 4, 0, 0, 0, 0);
    }

    private static void bedsByDays() {
        HomeFinder desk = desk(1);
        children(desk, 0, 0, 0);
        desk.need(0, 10, 19, false);
        desk.need(1, 20, 29, false);
        desk.need(2, 30, 40, false);
        due("18: one behind the other", desk.place(false), 0);
        desk.need(1, 19, 29, false);
        due("18: two on day 19", desk.place(false), 1);
        homes("18: the first has it", desk, 0, NONE, 0);
        desk.need(0, 10, 50, false);
        due("18: one long need against two", desk.place(false), 1);
        homes("18: the two have it", desk, NONE, 0, 0);
        desk = desk(2);
        children(desk, 0, 0, 0);
        desk.need(0, 10, 20, false);
        desk.need(1, 15, 30, false);
        desk.need(2, 21, 40, false);
        due("18: never three at once", desk.place(false), 0);
        desk.need(0, 10, 21, false);
        due("18: three on day 21", desk.place(false), 1);
    }

    private static void fewestWithoutAheadOfGroups() {
        HomeFinder desk = desk(1, 1);
        children(desk, 1, 1);
        due("18: parted, but not without", desk.place(false), 0);
        homes("18: parted", desk, 0, 1);
        figures("20: parted", desk, 2, 0, 1, 0, 0);
    }

    private static void groupsAheadOfMoves() {
        HomeFinder desk = desk(1, 2);
        children(desk, 1);
        desk.place(false);
        homes("18: alone", desk, 0);
        children(desk, 1);
        due("18: the second", desk.place(true), 0);
        homes("18: together, though one moves", desk, 1, 1);
        figures("20: together", desk, 2, 0, 0, 1, 0);
    }

    private static void movesAheadOfWishes() {
        HomeFinder desk = desk(1, 1, 1);
        children(desk, 0, 0);
        desk.place(false);
        homes("18: at first", desk, 0, 1);
        Check.read(desk, "wish 100 h0=2;wish 1 h0=1");
        desk.place(true);
        homes("18: kept", desk, 0, 1);
        figures("20: kept", desk, 2, 0, 0, 0, 1);
        desk.place(false);
        homes("18: not kept", desk, 1, 2);
        figures("20: not kept", desk, 2, 0, 0, 2, 101);
        desk.close(2, 0);
        desk.place(true);
        homes("18: one has to move", desk, 1, 0);
        figures("20: one has to move", desk, 2, 0, 0, 1, 1);
    }

    private static void wishesAheadOfOrder() {
        HomeFinder desk = desk(1, 1);
        children(desk, 0, 0);
        desk.fact(false, 0, 0, 1, 0);
        desk.fact(false, 1, 0, 0, 0);
        Check.read(desk, "wish 3 c0=h0");
        due("18: as they wish", desk.place(false), 0);
        homes("18: as they wish", desk, 1, 0);
        figures("20: as they wish", desk, 2, 0, 0, 0, 6);
        Check.read(desk, "wish 3 c0=h0 and h0=1;wish 3 h0=0");
        desk.place(false);
        homes("18: of 6 against 3", desk, 1, 0);
        Check.read(desk, "wish 3 h0=0;wish 3 h0=1");
        desk.place(false);
        homes("18: of two that are alike the first", desk, 0, 1);
    }

    private static void noneBehindAll() {
        HomeFinder desk = desk(1);
        children(desk, 0, 0);
        due("18: one bed", desk.place(false), 1);
        homes("18: child 0 has it", desk, 0, NONE);
        Check.read(desk, "wish 1 c1=1");
        desk.fact(false, 1, 1, 1, 0);
        due("18: one bed", desk.place(false), 1);
        homes("18: child 1 has it by its wish", desk, NONE, 0);
        figures("20: one moved to none", desk, 2, 1, 0, 1, 1);
        Check.read(desk, "");
        desk.place(true);
        homes("18: kept", desk, NONE, 0);
        figures("20: who had none has not moved", desk, 2, 1, 0, 0, 0);
        desk.place(false);
        homes("18: the first again", desk, 0, NONE);
        figures("20: one moved to none again", desk, 2, 1, 0, 1, 0);
    }

    private static void groupsParted() {
        HomeFinder desk = desk(2, 2, 2);
        children(desk, 1, 2, 3, 1, 2, 3);
        due("18: three pairs", desk.place(false), 0);
        homes("18: three pairs", desk, 0, 1, 2, 0, 1, 2);
        figures("20: three pairs", desk, 6, 0, 0, 0, 0);
        desk = desk(2, 2, 2);
        children(desk, 1, 1, 1, 2, 2, 2);
        due("18: two of three", desk.place(false), 0);
        figures("20: two of three", desk, 6, 0, 2, 0, 0);
        desk = desk(1, 1, 1);
        children(desk, 3, 3, 3);
        desk.place(false);
        figures("20: a group in three homes counts once", desk, 3, 0, 1, 0, 0);
        desk = desk(1);
        children(desk, 1, 1);
        desk.place(false);
        figures("20: one home and none is not parted", desk, 2, 1, 0, 0, 0);
        desk = desk(1, 1);
        children(desk, 0, 0);
        desk.place(false);
        figures("20: of no group", desk, 2, 0, 0, 0, 0);
        desk = desk(1, 2);
        children(desk, 0, 1, 1);
        desk.place(false);
        homes("18: room for the pair", desk, 0, 1, 1);
        desk = desk(2, 2);
        children(desk, 0, 1, 1);
        desk.ends(2);
        desk.place(false);
        homes("18: who has no need parts nothing", desk, 0, 0, NONE);
    }

    private static void moved() {
        HomeFinder desk = desk(3, 3);
        children(desk, 0, 0, 0);
        desk.place(true);
        figures("20: the first placing moves none", desk, 3, 0, 0, 0, 0);
        desk.close(0, 5);
        desk.need(0, 1, 4, false);
        desk.ends(2);
        due("18: home 0 closes", desk.place(false), 0);
        homes("18: home 0 closes", desk, 0, 1, NONE);
        figures("20: one moves, one has no need", desk, 2, 0, 0, 1, 0);
        desk.close(1, 0);
        due("18: no home is left", desk.place(true), 1);
        figures("20: to none is moved too", desk, 2, 1, 0, 1, 0);
    }

    private static void needsThatEnded() {
        HomeFinder desk = desk(1, 1);
        children(desk, 0, 0);
        desk.place(false);
        desk.ends(1);
        desk.place(true);
        desk.need(1, 10, 20, false);
        desk.close(0, 0);
        desk.need(0, 30, 40, false);
        due("18: both in home 1", desk.place(true), 0);
        homes("18: both in home 1", desk, 1, 1);
        figures("20: a home of the placing ahead of the latest does not count", desk, 2, 0, 0, 1, 0);
    }

    private static void onlyHomesThatFit() {
        HomeFinder desk = desk(2, 2, 2);
        children(desk, 0, 0, 0);
        Check.read(desk, "must c1=h0;night h0=2");
        desk.fact(false, 0, 1, 1, 0);
        desk.fact(false, 1, 1, 7, 0);
        desk.need(2, 10, 20, true);
        due("18: one fits nowhere", desk.place(false), 1);
        homes("18: by their musts", desk, 1, NONE, 2);
        desk.clock(5);
        desk.fact(false, 1, 1, 0, 10);
        due("18: a fact known later", desk.place(true), 0);
        homes("18: all", desk, 1, 0, 2);
    }

    private static void largest() {
        HomeFinder desk = desk(6, 6, 6, 6, 6);
        children(desk, 1, 2, 3, 1, 2, 3, 0);
        Check.read(desk, ("wish 100 1=1;".repeat(20) + ".").replace(";.", ""));
        due("18: all in one home but one", desk.place(false), 0);
        homes("18: beds for six", desk, 0, 0, 0, 0, 0, 0, 1);
        figures("20: the greatest sum", desk, 7, 0, 0, 0, 14000);
        Check.read(desk, "wish 100 h0=4;" + "wish 100 h0=4 ;".repeat(18) + "wish 99 h0=3");
        desk.place(true);
        homes("18: none moves for 1900", desk, 0, 0, 0, 0, 0, 0, 1);
        desk.place(false);
        homes("18: all move", desk, 4, 4, 4, 4, 4, 4, 3);
        figures("20: all move", desk, 7, 0, 0, 7, 11499);
        HomeFinder narrow = desk(1, 1, 1, 1, 1);
        children(narrow, 1, 1, 2, 2, 3, 3, 0);
        due("18: five beds for seven", narrow.place(false), 2);
        homes("18: but one pair is parted", narrow, 0, 1, 2, NONE, 3, NONE, 4);
        figures("20: but one pair is parted", narrow, 7, 2, 1, 0, 0);
    }
}
