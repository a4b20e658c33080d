/** Desks in set states, each made anew; none takes more than some 200 of an object's 512 calls. */
final class Desks {
    static final int MOST_CHILDREN = 7;
    static final int MOST_HOMES = 5;
    static final int MOST_FACTS = 100;
    static final int MOST_PAPERS = 30;
    static final int MOST_RULES = 20;
    static final int MOST_BYTES = 500;

    private Desks() { }

    static HomeFinder empty() {
        return new HomeFinder();
    }

    /** Something of everything, with room for more: three children, two homes, the clock at 20. */
    static HomeFinder busy() {
        HomeFinder desk = new HomeFinder();
        desk.home(2);
        desk.home(1);
        desk.child(1);
        desk.child(0);
        desk.child(1);
        desk.clock(10);
        desk.paper(0, 5, 60);
        desk.paper(1, 0, 999);
        desk.close(0, 45);
        tellBusyFacts(desk);
        desk.clock(20);
        desk.fact(false, 0, 2, 8, 15);
        desk.fact(true, 1, 3, 4, 40);
        desk.need(0, 10, 44, false);
        desk.need(1, 15, 45, true);
        desk.need(2, 40, 41, false);
        Check.read(desk, "must c0<h0;night c1<h1;wish 5 c2=h2;wish 7 h3>c3");
        desk.place(false);
        Check.type(desk, "must 1=1;wish 9 h0>c0");
        return desk;
    }

    private static void tellBusyFacts(HomeFinder desk) {
        desk.fact(true, 0, 0, 50, 0);
        desk.fact(true, 0, 1, 60, 0);
        desk.fact(true, 1, 0, 70, 12);
        desk.fact(false, 1, 1, 9, 20);
        desk.fact(true, 1, 1, 9, 0);
        desk.fact(false, 2, 3, -5, 0);
    }

    /** As much of everything as there may be; all homes fit all children and all are placed. */
    static HomeFinder full() {
        HomeFinder desk = new HomeFinder();
        int[] groups = {1, 1, 2, 2, 3, 3, 0};
        int[] beds = {2, 1, 2, 6, 1};
        for (int group : groups) {
            desk.child(group);
        }
        for (int bedCount : beds) {
            desk.home(bedCount);
        }
        desk.clock(3);
        tellAllFields(desk);
        for (int i = 0; i < MOST_FACTS - 8 * (MOST_CHILDREN + MOST_HOMES); i++) {
            desk.fact(true, i, 7, numberOf(true, i, 7) + 1, 500);
        }
        for (int paper = 0; paper < MOST_PAPERS; paper++) {
            desk.paper(paper % MOST_HOMES, paper, 100 + paper);
        }
        for (int child = 0; child < MOST_CHILDREN; child++) {
            desk.need(child, 40, 99, child == 6);
        }
        Check.read(desk, longestRules());
        desk.place(false);
        Check.type(desk, longestRules());
        return desk;
    }

    /** One fact for each field of each child and home, no two with the same number. */
    static void tellAllFields(HomeFinder desk) {
        for (int field = 0; field < 8; field++) {
            for (int child = 0; child < MOST_CHILDREN; child++) {
                desk.fact(false, child, field, numberOf(false, child, field), 30);
            }
            for (int home = 0; home < MOST_HOMES; home++) {
                desk.fact(true, home, field, numberOf(true, home, field), 30);
            }
        }
    }

    /** A child's numbers are all less than any home's. */
    static int numberOf(boolean home, int who, int field) {
        return (home ? 100 : 1) + 8 * who + field;
    }

    /** Twenty rules in 500 bytes, each so for every child and home of the full desk. */
    static String longestRules() {
        StringBuilder text = new StringBuilder();
        for (int rule = 0; rule < MOST_RULES; rule++) {
            String kind = new String[] {"must", "wish " + (rule + 1), "night"}[rule % 3];
            String one = kind + " c" + rule % 8 + "<h" + (rule + 3) % 8;
            text.append(one).append(" ".repeat(24 - one.length()));
            text.append(rule < MOST_RULES - 1 ? ";" : " ");
        }
        return text.toString();
    }

    /** Homes with these beds, all with a paper for all days; field 0 of each is its number. */
    static HomeFinder homes(int... beds) {
        HomeFinder desk = new HomeFinder();
        for (int home = 0; home < beds.length; home++) {
            desk.home(beds[home]);
            desk.paper(home, 0, 999);
            desk.fact(true, home, 0, home, 0);
        }
        return desk;
    }

    /** Children of these groups come, each with a need on days 10 to 20. */
    static void children(HomeFinder desk, int... groups) {
        for (int group : groups) {
            desk.need(desk.child(group), 10, 20, false);
        }
    }
}
