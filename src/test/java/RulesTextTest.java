/** Promise 14: the text of the rules and its faults; 15 to 17: what the rules then say. */
public final class RulesTextTest {
    private static final int NONE = HomeFinder.NONE;
    private static final Check CHECK = new Check();
    private static final int MISPLACED = 0;
    private static final int WRONG_NUMBER = 1;
    private static final int TOO_MANY = 2;

    private RulesTextTest() { }

    public static void main(String[] args) {
        goodTexts();
        misplaced();
        wrongNumbers();
        tooMany();
        leastOfOneWord();
        tapeAndRulesBehind();
        signsAndSides();
        bars();
        barsByNight();
        barsByDays();
        barsAtTheLastDays();
        wish();
        CHECK.finish();
    }

    private static void due(String call, int got, int want) {
        CHECK.due(call, got, want);
    }

    private static void good(String text, int rules) {
        due("14: '" + text + "'", Check.read(new HomeFinder(), text), rules);
    }

    private static void bad(String text, int place, int kind) {
        due("14: '" + text + "'", Check.read(new HomeFinder(), text), -2 - (1 + 8 * place + kind));
    }

    private static String times(String word, String between, int n) {
        return word + (between + word).repeat(n - 1);
    }

    private static void goodTexts() {
        good("", 0);
        good(" ", 0);
        good("     ", 0);
        good("must c0=1", 1);
        good("  must   c0  =  1  ", 1);
        good("must c7<h7;night h0>9999;wish 100 0=0000", 3);
        good("wish 0100 1=1 ; wish 1 1=1;wish 0001 2<3", 3);
        good(times("must 1=1", ";", 20), 20);
        good("must " + times("1=1", " and ", 6), 1);
        good(times("must " + times("1=1", " and ", 2), ";", 20), 20);
        good("must c0 < h0; must h1 = 1 and c1 > 2;wish 5 c0=3; wish 7 h2 > c2 ; night h3=1", 5);
        good("must 1=1" + " ".repeat(492), 1);
    }

    private static void misplaced() {
        bad("must", 4, MISPLACED);
        bad("must  ", 6, MISPLACED);
        bad("must c0", 7, MISPLACED);
        bad("must c0=", 8, MISPLACED);
        bad("must c0=1 and", 13, MISPLACED);
        bad("must c0=1;", 10, MISPLACED);
        bad("must c0=1; ", 11, MISPLACED);
        bad("wish", 4, MISPLACED);
        bad("wish 5", 6, MISPLACED);
        bad(";", 0, MISPLACED);
        bad(" ;", 1, MISPLACED);
        bad("must c0=1;;must c0=1", 10, MISPLACED);
        bad("may c0=1", 0, MISPLACED);
        bad("Must c0=1", 0, MISPLACED);
        bad("musts c0=1", 0, MISPLACED);
        bad("musta c0=1", 0, MISPLACED);
        bad("mustz c0=1", 0, MISPLACED);
        bad("must0 c0=1", 0, MISPLACED);
        bad("must9 c0=1", 0, MISPLACED);
        bad("must` c0=1", 4, MISPLACED);
        bad("must{ c0=1", 4, MISPLACED);
        bad("must/ c0=1", 4, MISPLACED);
        bad("must: c0=1", 4, MISPLACED);
        bad("must1=1", 0, MISPLACED);
        bad("mus t 1=1", 0, MISPLACED);
        bad("must must 1=1", 5, MISPLACED);
        bad("must c8 = 1", 5, MISPLACED);
        bad("must c00=1", 5, MISPLACED);
        bad("must c=1", 5, MISPLACED);
        bad("must c 0=1", 5, MISPLACED);
        bad("must C0=1", 5, MISPLACED);
        bad("must d0=1", 5, MISPLACED);
        bad("must ca=1", 5, MISPLACED);
        bad("must -1=1", 5, MISPLACED);
        bad("must 1a=1", 5, MISPLACED);
        bad("must c0 ! 1", 8, MISPLACED);
        bad("must c0 1", 8, MISPLACED);
        bad("must c0==1", 8, MISPLACED);
        bad("must c0<=1", 8, MISPLACED);
        bad("must c0=1 or c1=2", 10, MISPLACED);
        bad("must c0=1 c1=2", 10, MISPLACED);
        bad("must c0=1and c1=2", 8, MISPLACED);
        bad("must c0=1 andc1=2", 10, MISPLACED);
        bad("must c0=1 and;must c0=1", 13, MISPLACED);
        bad("must c0=1 and and c0=1", 14, MISPLACED);
        bad("wish c0=1", 5, MISPLACED);
        bad("wish 5c0=1", 5, MISPLACED);
        bad("wish5 c0=1", 0, MISPLACED);
        bad("wish -5 c0=1", 5, MISPLACED);
        bad("must 5 c0=1", 7, MISPLACED);
        bad("must\tc0=1", 4, MISPLACED);
        bad("must c0=1\n", 9, MISPLACED);
        bad("\0", 0, MISPLACED);
        bad("must c0=1\u00e9", 9, MISPLACED);
        bad("must c0=1" + " ".repeat(490) + "!", 499, MISPLACED);
        bad("must c0=1" + " ".repeat(490) + ";", 500, MISPLACED);
    }

    private static void wrongNumbers() {
        bad("must c0 = 12345", 10, WRONG_NUMBER);
        bad("must 00000 = 1", 5, WRONG_NUMBER);
        bad("must 123456789012345678901234567890 = 1", 5, WRONG_NUMBER);
        bad("wish 0 c0=1", 5, WRONG_NUMBER);
        bad("wish 0000 c0=1", 5, WRONG_NUMBER);
        bad("wish 101 c0=1", 5, WRONG_NUMBER);
        bad("wish 9999 c0=1", 5, WRONG_NUMBER);
        bad("wish 00001 c0=1", 5, WRONG_NUMBER);
        bad("wish 4294967297 c0=1", 5, WRONG_NUMBER);
        bad("wish 101", 5, WRONG_NUMBER);
        bad("wish 101 ! must", 5, WRONG_NUMBER);
    }

    private static void tooMany() {
        String twenty = times("must 1=1", ";", 20) + ";";
        bad(twenty + "must 1=1", 180, TOO_MANY);
        bad(twenty + " wish 0", 181, TOO_MANY);
        bad(twenty + "night", 180, TOO_MANY);
        String six = "must " + times("1=1", " and ", 6) + " and ";
        bad(six + "1=1", 53, TOO_MANY);
        bad(six + "c0", 53, TOO_MANY);
        bad("must 2=2 ;" + six + " h7 !", 64, TOO_MANY);
    }

    private static void leastOfOneWord() {
        String twenty = times("must 1=1", ";", 20) + ";";
        bad(twenty, 180, MISPLACED);
        bad(twenty + "may 1=1", 180, MISPLACED);
        bad(twenty + "12345", 180, MISPLACED);
        bad(twenty + "!", 180, MISPLACED);
        String six = "must " + times("1=1", " and ", 6) + " and ";
        bad(six, 53, MISPLACED);
        bad(six + "c8=1", 53, MISPLACED);
        bad(six + "=1", 53, MISPLACED);
        bad(six + "12345=1", 53, WRONG_NUMBER);
        bad("must c0 12345", 8, MISPLACED);
        bad("12345", 0, MISPLACED);
    }

    private static void tapeAndRulesBehind() {
        HomeFinder desk = new HomeFinder();
        due("14: two", Check.read(desk, "must 1=2;wish 9 1=1"), 2);
        due("14: the tape is empty", desk.count(6), 0);
        desk.child(0);
        desk.home(1);
        desk.paper(0, 0, 999);
        desk.need(0, 5, 6, false);
        due("14: they hold", desk.bars(0, 0), 10);
        due("14: a fault", Check.read(desk, "wish 1 1=1;wish 1 1=!"), -2 - (1 + 8 * 20));
        due("14: the tape is empty with a fault too", desk.count(6), 0);
        due("14: those ahead stay", desk.count(4), 2);
        due("14: and hold", desk.bars(0, 0), 10);
        due("14: and wish", desk.wish(0, 0), 9);
        due("14: one in their place", Check.read(desk, "wish 3 1=1"), 1);
        due("14: the must is gone", desk.bars(0, 0), 0);
        due("14: another wish", desk.wish(0, 0), 3);
        due("14: blanks", Check.read(desk, "   "), 0);
        due("14: no rules", desk.count(4), 0);
        due("14: no wish", desk.wish(0, 0), 0);
        Check.read(desk, "must 1=2");
        due("14: an empty tape", desk.rules(), 0);
        due("14: none bars", desk.bars(0, 0), 0);
        Check.type(desk, "must 1");
        Check.type(desk, "=2 and 3=");
        due("14: of two feeds", Check.read(desk, "4"), 1);
    }

    /** A desk with a child and an open home, the child's need on days 10 to 19. */
    private static HomeFinder pair(boolean night) {
        HomeFinder desk = new HomeFinder();
        desk.child(0);
        desk.home(1);
        desk.paper(0, 0, 999);
        desk.need(0, 10, 19, night);
        return desk;
    }

    private static void so(String cond, boolean want) {
        HomeFinder desk = pair(false);
        for (int field = 0; field < 8; field++) {
            desk.fact(false, 0, field, 100 + field, 0);
            desk.fact(true, 0, field, 200 + field, 0);
        }
        desk.fact(false, 0, 7, -5, 0);
        Check.read(desk, "must " + cond);
        due("15: " + cond, desk.bars(0, 0), want ? 0 : 10);
        Check.read(desk, "wish 8 " + cond);
        due("17: " + cond, desk.wish(0, 0), want ? 8 : 0);
    }

    private static void signsAndSides() {
        so("1<2", true);
        so("2<2", false);
        so("3<2", false);
        so("2>1", true);
        so("2>2", false);
        so("2>3", false);
        so("2=2", true);
        so("0002=2", true);
        so("2=3", false);
        so("10=0010", true);
        so("9<10", true);
        for (int field = 0; field < 7; field++) {
            so("c" + field + "=" + (100 + field), true);
            so("h" + field + "=" + (200 + field), true);
            so((100 + field) + "=c" + field, true);
        }
        so("h7=207", true);
        so("9998<9999", true);
        so("c1<9999", true);
        so("c7<0", true);
        so("c7<c6", true);
        so("h0>c0", true);
        so("h0<c0", false);
        so("1=1 and 1=2", false);
        so("1=2 and 1=1", false);
        so("1=1 and 2=2 and 3=3 and 4=4 and 5=5 and 6=6", true);
        so("1=1 and 2=2 and 3=3 and 4=4 and 5=5 and 6=7", false);
    }

    private static void bars() {
        HomeFinder desk = pair(false);
        due("15: nothing", desk.bars(0, 0), 0);
        due("16: nothing", desk.barred(0, 0), NONE);
        due("15: no child", desk.bars(1, 0), NONE);
        due("15: child -1", desk.bars(-1, 0), NONE);
        due("15: no home", desk.bars(0, 1), NONE);
        due("15: home -1", desk.bars(0, -1), NONE);
        due("16: no child", desk.barred(1, 0), NONE);
        due("16: no home", desk.barred(0, 1), NONE);
        Check.read(desk, "wish 5 1=2;must 1=1;must 2=3;must 3=4");
        due("15: the first rule that is not so", desk.bars(0, 0), 12);
        due("16: on the first day", desk.barred(0, 0), 10);
        desk.home(1);
        due("15: no paper ahead of rules", desk.bars(0, 1), 2);
        due("16: no paper", desk.barred(0, 1), 10);
        desk.close(1, 10);
        due("15: closed ahead of no paper", desk.bars(0, 1), 1);
        desk.close(1, 11);
        due("15: no paper a day ahead of closed", desk.bars(0, 1), 2);
        desk.ends(0);
        due("15: no need", desk.bars(0, 0), NONE);
        due("16: no need", desk.barred(0, 0), NONE);
        due("16: what was barred is forgotten", desk.barred(0, 1), NONE);
    }

    private static void barsByNight() {
        HomeFinder desk = pair(true);
        Check.read(desk, "must 1=2;night 1=1;night 2=3");
        due("15: night rules in place of musts", desk.bars(0, 0), 12);
        desk.need(0, 10, 19, false);
        due("15: musts by day", desk.bars(0, 0), 10);
        Check.read(desk, "must 1=2");
        desk.need(0, 10, 19, true);
        due("15: no night rule", desk.bars(0, 0), 0);
        Check.read(desk, "night 1=2");
        due("15: night rule", desk.bars(0, 0), 10);
        desk.need(0, 10, 19, false);
        due("15: no must", desk.bars(0, 0), 0);
    }

    private static void barsByDays() {
        HomeFinder desk = new HomeFinder();
        desk.child(0);
        desk.home(1);
        desk.paper(0, 0, 12);
        desk.paper(0, 13, 15);
        desk.need(0, 10, 19, false);
        due("15: the papers end", desk.bars(0, 0), 2);
        due("16: behind both", desk.barred(0, 0), 16);
        desk.paper(0, 17, 40);
        due("16: a gap of a day", desk.barred(0, 0), 16);
        desk.paper(0, 14, 18);
        due("15: no gap", desk.bars(0, 0), 0);
        Check.read(desk, "must c0=h0");
        due("15: both 0", desk.bars(0, 0), 0);
        desk.fact(false, 0, 0, 4, 19);
        due("15: a fact of the last day", desk.bars(0, 0), 10);
        due("16: on it", desk.barred(0, 0), 19);
        desk.fact(true, 0, 0, 4, 15);
        due("16: a fact of the home", desk.barred(0, 0), 15);
        desk.fact(false, 0, 0, 4, 15);
        due("15: both 4 from then on", desk.bars(0, 0), 0);
        desk.fact(true, 0, 0, 6, 20);
        due("15: behind the need", desk.bars(0, 0), 0);
        desk.close(0, 20);
        due("15: closed behind the need", desk.bars(0, 0), 0);
        desk.close(0, 19);
        due("15: closed on its last day", desk.bars(0, 0), 1);
        due("16: the day", desk.barred(0, 0), 19);
        desk.fact(false, 0, 0, 7, 19);
        due("15: closed ahead of a rule", desk.bars(0, 0), 1);
        desk.fact(false, 0, 0, 7, 18);
        due("15: a rule a day ahead", desk.bars(0, 0), 10);
        due("16: that day", desk.barred(0, 0), 18);
    }

    private static void barsAtTheLastDays() {
        HomeFinder desk = pair(false);
        desk.need(0, 960, 999, false);
        Check.read(desk, "must c0=0");
        due("15: open up to the last day of all", desk.bars(0, 0), 0);
        desk.fact(false, 0, 0, 1, 999);
        due("15: a fact of the last day of all", desk.bars(0, 0), 10);
        due("16: the last day of all", desk.barred(0, 0), 999);
        desk.close(0, 998);
        due("16: the day ahead of it", desk.barred(0, 0), 998);
        desk.need(0, 999, 999, false);
        desk.close(0, 999);
        due("15: closed on the last day of all", desk.bars(0, 0), 1);
    }

    private static void wish() {
        HomeFinder desk = pair(false);
        due("17: no rules", desk.wish(0, 0), 0);
        Check.read(desk, "wish 5 c0=1;must 1=2;wish 70 h0=1;wish 100 1=1;wish 100 1=2;night 1=1");
        due("17: one is so", desk.wish(0, 0), 100);
        desk.fact(false, 0, 0, 1, 11);
        due("17: not so on the first day", desk.wish(0, 0), 100);
        desk.fact(true, 0, 0, 1, 10);
        due("17: so from the first day on", desk.wish(0, 0), 170);
        desk.fact(false, 0, 0, 1, 3);
        due("17: three", desk.wish(0, 0), 175);
        due("17: though it does not fit", desk.bars(0, 0), 11);
        desk.close(0, 0);
        due("17: closed", desk.wish(0, 0), 175);
        due("17: no child", desk.wish(1, 0), NONE);
        due("17: child -1", desk.wish(-1, 0), NONE);
        due("17: no home", desk.wish(0, 1), NONE);
        due("17: home -1", desk.wish(0, -1), NONE);
        desk.ends(0);
        due("17: no need", desk.wish(0, 0), NONE);
        desk.need(0, 10, 10, true);
        due("17: by night too", desk.wish(0, 0), 175);
        Check.read(desk, times("wish 100 1=1", ";", 20));
        due("17: the greatest", desk.wish(0, 0), 2000);
    }
}
