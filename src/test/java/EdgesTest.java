import java.util.function.Supplier;

/**
 * For every argument of every call the least and the greatest number that is still taken and the
 * first ones that are not, on the empty desk, the busy one and the full one. Behind each call that
 * is refused, and behind each that only looks, everything is as it was.
 */
public final class EdgesTest {
    private static final int NONE = HomeFinder.NONE;
    private static final Check CHECK = new Check();

    /** Makes a call with a number and says whether it was taken. */
    private interface Call {
        boolean taken(HomeFinder desk, int number);
    }

    private EdgesTest() { }

    public static void main(String[] args) {
        clock();
        child();
        home();
        factOfWhom();
        factOfWhat();
        valueOfWhom();
        valueOfWhat();
        paper();
        until();
        close();
        needOfWhom();
        needByDays();
        ends();
        feed();
        end();
        pairs();
        at();
        placed();
        beds();
        review();
        reviews();
        count();
        CHECK.finish();
    }

    /** A call that takes the numbers from the least to the greatest, and no others. */
    private static void edge(String what, Supplier<HomeFinder> desks, int least, int greatest,
            Call call) {
        CHECK.due(what + ", the least: " + least, call.taken(desks.get(), least), true);
        CHECK.due(what + ", the greatest: " + greatest, call.taken(desks.get(), greatest), true);
        refused(what, desks, least, greatest, call);
    }

    /** As edge, of a call that changes nothing when it is taken either. */
    private static void look(String what, Supplier<HomeFinder> desks, int least, int greatest,
            Call call) {
        edge(what, desks, least, greatest, call);
        String ahead = State.of(desks.get());
        for (int number : new int[] {least, greatest}) {
            HomeFinder desk = desks.get();
            call.taken(desk, number);
            CHECK.same(what + ", a look: " + number, State.of(desk), ahead);
        }
    }

    /** A call that takes no number at all. */
    private static void never(String what, Supplier<HomeFinder> desks, Call call) {
        refused(what, desks, 1, 0, call);
        refused(what, desks, 7, 6, call);
    }

    private static void refused(String what, Supplier<HomeFinder> desks, int least, int greatest,
            Call call) {
        String ahead = State.of(desks.get());
        for (int number : around(least, greatest)) {
            if (number < least || number > greatest) {
                HomeFinder desk = desks.get();
                CHECK.due(what + ", refused: " + number, call.taken(desk, number), false);
                CHECK.same(what + ", refused: " + number, State.of(desk), ahead);
            }
        }
    }

    /** The numbers next to a range, far ones, and such that wrap around to it if cut or raised. */
    private static int[] around(int least, int greatest) {
        return new int[] {least - 1, greatest + 1, least - 2, greatest + 2,
            Integer.MIN_VALUE, Integer.MAX_VALUE, Integer.MIN_VALUE + least,
            least + 256, least + (1 << 16), least + (1 << 29), least + (1 << 30),
            greatest - (1 << 16), greatest - (1 << 30), ~least, 0x66666667, 0x33333333};
    }

    /** A desk with some children and homes, all with needs and papers, all placed. */
    private static HomeFinder some(int children, int homes) {
        HomeFinder desk = new HomeFinder();
        for (int home = 0; home < homes; home++) {
            desk.home(6);
            desk.paper(home, 0, 999);
        }
        for (int child = 0; child < children; child++) {
            desk.child(0);
            desk.need(child, 10, 69, false);
        }
        desk.place(false);
        return desk;
    }

    private static HomeFinder at(int day) {
        HomeFinder desk = Desks.busy();
        desk.clock(day);
        return desk;
    }

    private static void clock() {
        Call call = (desk, day) -> desk.clock(day) && desk.count(5) == day;
        edge("2: the clock, a new object", Desks::empty, 0, 999, call);
        edge("2: the clock, its own day or later ones", Desks::busy, 20, 999, call);
        edge("2: the clock, a day ahead of the last", () -> at(998), 998, 999, call);
        edge("2: the clock, on the last day", () -> at(999), 999, 999, call);
    }

    private static void child() {
        Call call = (desk, group) -> desk.child(group) != NONE;
        edge("3: GROUP, a new object", Desks::empty, 0, 3, call);
        edge("3: GROUP", Desks::busy, 0, 3, call);
        edge("3: GROUP, the seventh child", () -> some(6, 1), 0, 3, call);
        never("3: GROUP, there are 7", () -> some(7, 1), call);
        never("3: GROUP, a full desk", Desks::full, call);
    }

    private static void home() {
        Call call = (desk, beds) -> desk.home(beds) != NONE;
        edge("4: BEDS, a new object", Desks::empty, 1, 6, call);
        edge("4: BEDS", Desks::busy, 1, 6, call);
        edge("4: BEDS, the fifth home", () -> some(1, 4), 1, 6, call);
        never("4: BEDS, there are 5", () -> some(1, 5), call);
        never("4: BEDS, a full desk", Desks::full, call);
    }

    private static void factOfWhom() {
        Call ofChild = (desk, who) -> desk.fact(false, who, 0, 1, 1) != NONE;
        Call ofHome = (desk, who) -> desk.fact(true, who, 0, 1, 1) != NONE;
        never("5: a fact of a child, no children", () -> some(0, 5), ofChild);
        never("5: a fact of a home, no homes", () -> some(7, 0), ofHome);
        edge("5: a fact of a child, one child", () -> some(1, 5), 0, 0, ofChild);
        edge("5: a fact of a home, one home", () -> some(7, 1), 0, 0, ofHome);
        edge("5: a fact of a child, three children", Desks::busy, 0, 2, ofChild);
        edge("5: a fact of a home, two homes", Desks::busy, 0, 1, ofHome);
        edge("5: a fact of a child, CHILDREN 0 to 6", () -> some(7, 1), 0, 6, ofChild);
        edge("5: a fact of a home, HOMES 0 to 4", () -> some(1, 5), 0, 4, ofHome);
        never("5: a fact of a child, there are 100", Desks::full, ofChild);
        never("5: a fact of a home, there are 100", Desks::full, ofHome);
    }

    private static void factOfWhat() {
        for (boolean home : new boolean[] {false, true}) {
            String whose = home ? " of a home" : " of a child";
            edge("5: FIELDS 0 to 7" + whose, Desks::busy, 0, 7,
                    (desk, field) -> desk.fact(home, 1, field, 1, 1) != NONE);
            edge("5: a number -999 to 9999" + whose, Desks::busy, -999, 9999,
                    (desk, number) -> desk.fact(home, 1, 6, number, 1) != NONE
                            && desk.value(home, 1, 6, 1, 20) == number);
            edge("5: DAYS 0 to 999" + whose, Desks::busy, 0, 999,
                    (desk, day) -> desk.fact(home, 1, 6, 1, day) != NONE
                            && desk.value(home, 1, 6, day, 20) == 1);
        }
    }

    private static void valueOfWhom() {
        Call ofChild = (desk, who) -> desk.value(false, who, 0, 1, 1) != -1000;
        Call ofHome = (desk, who) -> desk.value(true, who, 0, 1, 1) != -1000;
        never("6: a child's, no children", () -> some(0, 5), ofChild);
        never("6: a home's, no homes", () -> some(7, 0), ofHome);
        look("6: a child's, one child", () -> some(1, 5), 0, 0, ofChild);
        look("6: a home's, one home", () -> some(7, 1), 0, 0, ofHome);
        look("6: a child's, three children", Desks::busy, 0, 2, ofChild);
        look("6: a home's, two homes", Desks::busy, 0, 1, ofHome);
        look("6: a child's, a full desk", Desks::full, 0, 6, ofChild);
        look("6: a home's, a full desk", Desks::full, 0, 4, ofHome);
    }

    private static void valueOfWhat() {
        for (boolean home : new boolean[] {false, true}) {
            String whose = home ? " of a home" : " of a child";
            look("6: FIELDS 0 to 7" + whose, Desks::busy, 0, 7,
                    (desk, field) -> desk.value(home, 1, field, 1, 1) != -1000);
            look("6: on DAYS 0 to 999" + whose, Desks::busy, 0, 999,
                    (desk, day) -> desk.value(home, 1, 1, day, 20) != -1000);
            look("6: as KNOWN on DAYS 0 to 999" + whose, Desks::busy, 0, 999,
                    (desk, known) -> desk.value(home, 1, 1, 20, known) != -1000);
        }
    }

    private static void paper() {
        Call ofHome = (desk, home) -> desk.paper(home, 1, 2) != NONE;
        never("7: no homes", Desks::empty, ofHome);
        edge("7: two homes", Desks::busy, 0, 1, ofHome);
        edge("7: HOMES 0 to 4", () -> some(1, 5), 0, 4, ofHome);
        never("7: there are 30", Desks::full, ofHome);
        edge("7: the first DAY, up to the last of all", Desks::busy, 0, 999,
                (desk, first) -> desk.paper(0, first, 999) != NONE);
        edge("7: the first DAY, not behind the last", Desks::busy, 0, 500,
                (desk, first) -> desk.paper(0, first, 500) != NONE);
        edge("7: the first DAY, a paper of day 0", Desks::busy, 0, 0,
                (desk, first) -> desk.paper(0, first, 0) != NONE);
        edge("7: the last DAY, from day 0 on", Desks::busy, 0, 999,
                (desk, last) -> desk.paper(0, 0, last) != NONE);
        edge("7: the last DAY, not ahead of the first", Desks::busy, 500, 999,
                (desk, last) -> desk.paper(0, 500, last) != NONE);
        edge("7: the last DAY, a paper of day 999", Desks::busy, 999, 999,
                (desk, last) -> desk.paper(0, 999, last) != NONE);
        never("7: both days wrong", Desks::busy,
                (desk, days) -> desk.paper(0, days - 1000000, days - 999999) != NONE);
    }

    private static void until() {
        Call ofHome = (desk, home) -> desk.until(home, 47) != NONE;
        never("8: no homes", Desks::empty, ofHome);
        look("8: two homes", Desks::busy, 0, 1, ofHome);
        look("8: HOMES 0 to 4", Desks::full, 0, 4, ofHome);
        look("8: DAYS 0 to 999", Desks::busy, 0, 999,
                (desk, day) -> desk.until(1, day) == 999);
        look("8: the days of a paper", Desks::busy, 5, 60,
                (desk, day) -> desk.until(0, day) == 60);
    }

    private static void close() {
        Call ofHome = (desk, home) -> desk.close(home, 5);
        Call ofHomeNoMore = (desk, home) -> desk.close(home, NONE);
        never("9: no homes", Desks::empty, ofHome);
        never("9: no homes, no more", Desks::empty, ofHomeNoMore);
        edge("9: two homes", Desks::busy, 0, 1, ofHome);
        edge("9: two homes, no more", Desks::busy, 0, 1, ofHomeNoMore);
        edge("9: HOMES 0 to 4", Desks::full, 0, 4, ofHome);
        edge("9: a DAY or NONE, a closed home", Desks::busy, NONE, 999,
                (desk, day) -> desk.close(0, day));
        edge("9: a DAY or NONE, an open home", Desks::busy, NONE, 999,
                (desk, day) -> desk.close(1, day));
    }

    private static void needOfWhom() {
        Call ofChild = (desk, child) -> desk.need(child, 5, 6, false);
        never("10: no children", Desks::empty, ofChild);
        edge("10: one child", () -> some(1, 5), 0, 0, ofChild);
        edge("10: three children", Desks::busy, 0, 2, ofChild);
        edge("10: CHILDREN 0 to 6", Desks::full, 0, 6, ofChild);
    }

    private static void needByDays() {
        for (boolean night : new boolean[] {false, true}) {
            int child = night ? 0 : 1;
            edge("10: the first DAY, 60 days at most", Desks::busy, 441, 500,
                    (desk, first) -> desk.need(child, first, 500, night));
            edge("10: the last DAY, 60 days at most", Desks::busy, 500, 559,
                    (desk, last) -> desk.need(child, 500, last, night));
            edge("10: the first DAY, not ahead of day 0", Desks::busy, 0, 30,
                    (desk, first) -> desk.need(child, first, 30, night));
            edge("10: the last DAY, not behind day 999", Desks::busy, 980, 999,
                    (desk, last) -> desk.need(child, 980, last, night));
            edge("10: the last DAY, from day 0 on", Desks::busy, 0, 59,
                    (desk, last) -> desk.need(child, 0, last, night));
            edge("10: the first DAY, up to day 999", Desks::busy, 940, 999,
                    (desk, first) -> desk.need(child, first, 999, night));
            edge("10: a need of one day", Desks::busy, 0, 999,
                    (desk, day) -> desk.need(child, day, day, night));
        }
        // The span from the first to the last wraps around to 1 and to 2 days.
        never("10: days whose span wraps around", Desks::busy,
                (desk, n) -> desk.need(0, Integer.MIN_VALUE, Integer.MIN_VALUE + Math.abs(n % 2), true)
                        || desk.need(0, Integer.MAX_VALUE, Integer.MIN_VALUE, true));
    }

    private static void ends() {
        never("11: no children", Desks::empty, (desk, child) -> desk.ends(child));
        edge("11: three children", Desks::busy, 0, 2, (desk, child) -> desk.ends(child));
        edge("11: CHILDREN 0 to 6", Desks::full, 0, 6, (desk, child) -> desk.ends(child));
        never("11: children without a need", () -> {
            HomeFinder desk = Desks.busy();
            for (int child = 0; child < 3; child++) {
                desk.ends(child);
            }
            return desk;
        }, (desk, child) -> desk.ends(child));
    }

    private static HomeFinder tape(int bytes) {
        HomeFinder desk = Desks.busy();
        desk.end(0);
        for (int fed = 0; fed < bytes; fed += 20) {
            desk.feed(fed, 0x6d757374, 0x20202020, ~fed, 0x20202020);
        }
        desk.end(bytes);
        return desk;
    }

    private static void feed() {
        for (int bytes = 476; bytes <= 480; bytes++) {
            HomeFinder desk = tape(bytes);
            CHECK.due("12: behind " + bytes, desk.feed(1, 2, 3, 4, 5), bytes + 20);
            CHECK.due("12: has so many", desk.count(6), bytes + 20);
        }
        for (int bytes = 481; bytes <= 500; bytes++) {
            int had = bytes;
            never("12: it would have more than 500: " + bytes, () -> tape(had),
                    (desk, n) -> desk.feed(n, n, n, n, n) != NONE);
        }
        for (int n : around(0, 0)) {
            CHECK.due("12: any numbers", Desks.empty().feed(n, n, n, n, n), 20);
        }
    }

    private static void end() {
        Call call = (desk, n) -> desk.end(n) == n && n != NONE && desk.count(6) == n;
        for (int bytes : new int[] {0, 1, 19, 20, 21, 480, 499, 500}) {
            edge("13: of " + bytes, () -> tape(bytes), 0, bytes, call);
        }
        edge("13: a full desk", Desks::full, 0, 500, call);
    }

    private static void pairs() {
        Supplier<HomeFinder> needless = () -> {
            HomeFinder desk = some(1, 5);
            desk.ends(0);
            return desk;
        };
        pairs("15: bars", needless, (desk, child, home) -> desk.bars(child, home) != NONE);
        pairs("17: wish", needless, (desk, child, home) -> desk.wish(child, home) != NONE);
        Supplier<HomeFinder> closed = () -> {
            HomeFinder desk = some(7, 5);
            for (int home = 0; home < 5; home++) {
                desk.close(home, 10);
            }
            return desk;
        };
        look("16: barred, CHILDREN 0 to 6", closed, 0, 6, (desk, c) -> desk.barred(c, 4) == 10);
        look("16: barred, HOMES 0 to 4", closed, 0, 4, (desk, h) -> desk.barred(6, h) == 10);
        never("16: barred, no NEED", needless, (desk, home) -> desk.barred(0, home) != NONE);
        never("16: barred, nothing bars", Desks::full, (desk, home) -> desk.barred(0, home) != NONE);
    }

    /** Makes a call with a child and a home and says whether it was answered. */
    private interface PairCall {
        boolean answered(HomeFinder desk, int child, int home);
    }

    private static void pairs(String what, Supplier<HomeFinder> needless, PairCall call) {
        never(what + ", no children", () -> some(0, 5), (desk, c) -> call.answered(desk, c, 0));
        never(what + ", no homes", () -> some(7, 0), (desk, h) -> call.answered(desk, 0, h));
        never(what + ", no NEED", needless, (desk, h) -> call.answered(desk, 0, h));
        look(what + ", three children", Desks::busy, 0, 2, (desk, c) -> call.answered(desk, c, 1));
        look(what + ", two homes", Desks::busy, 0, 1, (desk, h) -> call.answered(desk, 2, h));
        look(what + ", CHILDREN 0 to 6", Desks::full, 0, 6, (desk, c) -> call.answered(desk, c, 4));
        look(what + ", HOMES 0 to 4", Desks::full, 0, 4, (desk, h) -> call.answered(desk, 6, h));
        never(what + ", neither", Desks::full, (desk, n) -> call.answered(desk, n - 10, n + 10));
    }

    private static void at() {
        Call call = (desk, child) -> desk.at(child) != NONE;
        never("19: no children", Desks::empty, call);
        look("19: one child", () -> some(1, 1), 0, 0, call);
        look("19: six children", () -> some(6, 5), 0, 5, call);
        look("19: CHILDREN 0 to 6", Desks::full, 0, 6, call);
    }

    private static void placed() {
        Call call = (desk, what) -> desk.placed(what) != NONE;
        never("20: ahead of any", Desks::empty, call);
        look("20: what 0 to 4, nobody to place", () -> some(0, 0), 0, 4, call);
        look("20: what 0 to 4", Desks::full, 0, 4, call);
    }

    private static void beds() {
        Call ofHome = (desk, home) -> desk.beds(home, 40) != NONE;
        never("21: no homes", Desks::empty, ofHome);
        look("21: two homes", Desks::busy, 0, 1, ofHome);
        look("21: HOMES 0 to 4", Desks::full, 0, 4, ofHome);
        look("21: DAYS 0 to 999", Desks::full, 0, 999, (desk, day) -> desk.beds(3, day) != NONE);
        look("21: the days of a NEED", () -> some(1, 1), 10, 69,
                (desk, day) -> desk.beds(0, day) == 1);
    }

    private static HomeFinder needOf(int days) {
        HomeFinder desk = some(2, 1);
        desk.need(1, 900, 899 + days, false);
        return desk;
    }

    private static void review() {
        Call ofChild = (desk, child) -> desk.review(child, 0) != NONE;
        Call ofChild1 = (desk, k) -> desk.review(1, k) != NONE;
        never("22: no children", Desks::empty, ofChild);
        look("22: one child", () -> some(1, 1), 0, 0, ofChild);
        look("22: CHILDREN 0 to 6", Desks::full, 0, 6, ofChild);
        never("22: a need of 1 day", () -> needOf(1), ofChild1);
        never("22: a need of 7 days", () -> needOf(7), ofChild1);
        look("22: a need of 8 days", () -> needOf(8), 0, 0, ofChild1);
        look("22: a need of 28 days", () -> needOf(28), 0, 0, ofChild1);
        look("22: a need of 29 days", () -> needOf(29), 0, 1, ofChild1);
        look("22: a need of 60 days", () -> needOf(60), 0, 1, ofChild1);
    }

    private static void reviews() {
        Call call = (desk, day) -> desk.reviews(day) != NONE;
        look("23: DAYS 0 to 999, a new object", Desks::empty, 0, 999, call);
        look("23: DAYS 0 to 999", Desks::busy, 0, 999, call);
        look("23: DAYS 0 to 999, a full desk", Desks::full, 0, 999, call);
    }

    private static void count() {
        Call call = (desk, what) -> desk.count(what) != NONE;
        look("24: what 0 to 6, a new object", Desks::empty, 0, 6, call);
        look("24: what 0 to 6", Desks::busy, 0, 6, call);
        look("24: what 0 to 6, a full desk", Desks::full, 0, 6, call);
    }
}
