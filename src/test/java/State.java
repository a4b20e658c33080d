/**
 * All that an object tells of itself, as a text, so that a call can be seen to change nothing. It
 * takes some 300 calls at most; the last of them reads the tape, so the object is done with then.
 */
final class State {
    private final HomeFinder desk;
    private final int children;
    private final int homes;
    private final StringBuilder told = new StringBuilder();

    private State(HomeFinder desk) {
        this.desk = desk;
        children = desk.count(0);
        homes = desk.count(1);
    }

    static String of(HomeFinder desk) {
        State state = new State(desk);
        state.tellAll();
        return state.told.toString();
    }

    private void tellAll() {
        for (int what = 0; what < 7; what++) {
            tell("count(" + what + ")", desk.count(what));
        }
        tellFields();
        tellPairs();
        tellPlacing();
        // A small desk leaves calls to look at more days.
        for (int day : children * homes > 12 ? new int[] {47} : new int[] {0, 17, 45, 999}) {
            tellDay(day);
        }
        tell("rules()", desk.rules());
        for (int child = 0; child < children; child++) {
            tell("wish by the tape " + child, desk.wish(child, homes - 1));
        }
    }

    private void tell(String call, int answer) {
        told.append(call).append(" is ").append(answer).append('\n');
    }

    private void tellFields() {
        for (int field = 0; field < 8; field++) {
            for (int child = 0; child < children; child++) {
                tell("field " + field + " of child " + child, desk.value(false, child, field, 999, 999));
            }
            for (int home = 0; home < homes; home++) {
                tell("field " + field + " of home " + home, desk.value(true, home, field, 999, 999));
            }
        }
    }

    private void tellPairs() {
        for (int child = 0; child < children; child++) {
            for (int home = 0; home < homes; home++) {
                String pair = "(" + child + ", " + home + ")";
                tell("bars" + pair, desk.bars(child, home));
                tell("barred" + pair, desk.barred(child, home));
                tell("wish" + pair, desk.wish(child, home));
            }
        }
    }

    private void tellPlacing() {
        for (int what = 0; what < 5; what++) {
            tell("placed(" + what + ")", desk.placed(what));
        }
        for (int child = 0; child < children; child++) {
            tell("at(" + child + ")", desk.at(child));
            tell("review(" + child + ", 0)", desk.review(child, 0));
            tell("review(" + child + ", 1)", desk.review(child, 1));
        }
    }

    private void tellDay(int day) {
        tell("reviews(" + day + ")", desk.reviews(day));
        for (int home = 0; home < homes; home++) {
            tell("until(" + home + ", " + day + ")", desk.until(home, day));
            tell("beds(" + home + ", " + day + ")", desk.beds(home, day));
        }
    }
}
