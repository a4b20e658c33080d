/** Promises 12 to 14: the tape and the text at every edge that "Terms" II names. */
public final class TextEdgesTest {
    private static final Check CHECK = new Check();
    private static final int MISPLACED = 0;
    private static final int WRONG_NUMBER = 1;
    private static final int TOO_MANY = 2;

    private TextEdgesTest() { }

    public static void main(String[] args) {
        for (int b = 0; b < 256; b++) {
            byteBetweenWords((char) b);
            byteOfSide((char) b);
            byteOfSign((char) b);
            byteOfWish((char) b);
        }
        bytesOfNumbers();
        placesOfFaults();
        endOfEveryLength();
        blanksAlone();
        wordsAsFarAsTheyGo();
        wordsByteByByte();
        numbersOfDigits();
        numbersOfWishes();
        numbersOfFields();
        rulesUpToTwenty();
        termsUpToSix();
        manyTerms();
        leastOfOneWord();
        firstAlongTheText();
        tapeIsEmptyThen();
        thoseAheadStay();
        nothingElseHappens();
        CHECK.finish();
    }

    private static void due(String call, int got, int want) {
        CHECK.due(call, got, want);
    }

    private static void good(String text, int rules) {
        due("14: '" + text + "'", Check.read(new HomeFinder(), text), rules);
    }

    private static void bad(String text, int place, int kind) {
        due("14: '" + text + "'", Check.read(new HomeFinder(), text), -2 - (1 + 8 * place + kind));
    }

    private static String times(String word, String between, int n) {
        return word + (between + word).repeat(n - 1);
    }

    private static boolean isDigit(char b) {
        return b >= 48 && b <= 57;
    }

    private static boolean isOfWord(char b) {
        return isDigit(b) || (b >= 97 && b <= 122);
    }

    /** A byte alone, behind a rule's first word, behind a term and between two rules. */
    private static void byteBetweenWords(char b) {
        if (b == 32) {
            good(" ", 0);
            good("must c0=1", 1);
            good("must c0=1 ", 1);
            bad("must 1=1   must 1=1", 11, MISPLACED);
            bad("must 1=1; ", 10, MISPLACED);
            return;
        }
        bad("" + b, 0, MISPLACED);
        bad("must" + b + "c0=1", isOfWord(b) ? 0 : 4, MISPLACED);
        bad("must 1=1;" + b, 9, MISPLACED);
        if (isDigit(b)) {
            good("must c0=1" + b, 1);
        } else {
            int place = isOfWord(b) ? 8 : b == ';' ? 10 : 9;
            bad("must c0=1" + b, place, MISPLACED);
        }
        if (b == ';') {
            good("must 1=1 ; must 1=1", 2);
        } else {
            bad("must 1=1 " + b + " must 1=1", 9, MISPLACED);
        }
        if (b == 'd') {
            good("must 1=1 and 1=1", 1);
        } else {
            bad("must 1=1 an" + b + " 1=1", 9, MISPLACED);
        }
    }

    /** A byte as the first and as the second of a side. */
    private static void byteOfSide(char b) {
        if (b == 'c' || b == 'h' || isDigit(b) || b == 32) {
            good("must " + b + "0=1", 1);
            good("must 1=" + b + "0", 1);
        } else {
            bad("must " + b + "0=1", 5, MISPLACED);
            bad("must 1=" + b + "0", 7, MISPLACED);
        }
        if (b >= '0' && b <= '7') {
            good("must c" + b + "=1", 1);
            good("must 1=h" + b, 1);
        } else {
            bad("must c" + b + "=1", 5, MISPLACED);
            bad("must 1=h" + b, 7, MISPLACED);
        }
    }

    private static void byteOfSign(char b) {
        if (b == '<' || b == '>' || b == '=') {
            good("must c0" + b + "1", 1);
            good("must c0 " + b + " 1", 1);
            bad("must c0" + b + b + "1", 8, MISPLACED);
        } else {
            bad("must c0" + b + "1", isOfWord(b) ? 5 : b == 32 ? 8 : 7, MISPLACED);
            bad("must c0 " + b + " 1", b == 32 ? 10 : 8, MISPLACED);
        }
    }

    private static void byteOfWish(char b) {
        if (b >= '1' && b <= '9') {
            good("wish " + b + " 1=1", 1);
        } else if (b == '0') {
            bad("wish 0 1=1", 5, WRONG_NUMBER);
        } else {
            bad("wish " + b + " 1=1", b == 32 ? 8 : 5, MISPLACED);
        }
    }

    /** Twenty bytes, of each number the highest first: each byte at each place. */
    private static void bytesOfNumbers() {
        for (int place = 0; place < 20; place++) {
            for (int b : new int[] {0, 31, 33, 127, 128, 160, 255}) {
                int[] n = {0x20202020, 0x20202020, 0x20202020, 0x20202020, 0x20202020};
                int shift = 24 - 8 * (place % 4);
                n[place / 4] = n[place / 4] & ~(255 << shift) | b << shift;
                HomeFinder desk = new HomeFinder();
                due("12: twenty", desk.feed(n[0], n[1], n[2], n[3], n[4]), 20);
                due("12: byte " + b + " at " + place, desk.rules(), -2 - (1 + 8 * place));
            }
        }
    }

    /** A fault at each place of the longest text, and nowhere else. */
    private static void placesOfFaults() {
        for (int place = 0; place < 500; place++) {
            bad(" ".repeat(place) + "!" + " ".repeat(499 - place), place, MISPLACED);
        }
        bad(" ".repeat(490) + "wish 0 1=1", 495, WRONG_NUMBER);
        bad(" ".repeat(493) + "wish101", 493, MISPLACED);
        bad(" ".repeat(492) + "wish 101", 497, WRONG_NUMBER);
        bad(" ".repeat(490) + "must 12345", 495, WRONG_NUMBER);
    }

    /** The end is behind the last byte, be that a blank or not. */
    private static void endOfEveryLength() {
        for (int length = 4; length <= 500; length++) {
            bad("must" + " ".repeat(length - 4), length, MISPLACED);
            bad(" ".repeat(length - 4) + "wish", length, MISPLACED);
        }
        String whole = "wish 1 c0=1 and h7<2;night 1=1";
        for (int length = 1; length < whole.length(); length++) {
            String text = whole.substring(0, length);
            boolean cutWord = text.matches("w|wi|wis|.* [ch]|.* an?|.*;n|.*;ni|.*;nig|.*;nigh");
            int word = length;
            while (cutWord && word > 0 && isOfWord(text.charAt(word - 1))) {
                word--;
            }
            if (text.matches("wish 1 c0=1 ?|wish 1 c0=1 and h7<2|.*1=1")) {
                good(text, 1);
            } else {
                bad(text, cutWord ? word : length, MISPLACED);
            }
        }
        good(whole, 2);
    }

    private static void blanksAlone() {
        for (int length = 0; length <= 500; length++) {
            good(" ".repeat(length), 0);
        }
        good(" ".repeat(491) + "must 1=1 ", 1);
        good(" ".repeat(492) + "must 1=1", 1);
        good("must" + " ".repeat(493) + "1=1", 1);
        good("wish 1 1" + " ".repeat(245) + "=" + " ".repeat(245) + "1", 1);
    }

    private static void wordsAsFarAsTheyGo() {
        good("must c0<h0 and 1=1", 1);
        bad("must c0<h0and 1=1", 8, MISPLACED);
        bad("must 1=1and 1=1", 7, MISPLACED);
        bad("must 1=1 and1=1", 9, MISPLACED);
        bad("must1=1", 0, MISPLACED);
        bad("mustc0=1", 0, MISPLACED);
        bad("wish1 1=1", 0, MISPLACED);
        bad("wish 1c0=1", 5, MISPLACED);
        bad("nights 1=1", 0, MISPLACED);
        bad("nigh 1=1", 0, MISPLACED);
        bad("wishe 1 1=1", 0, MISPLACED);
        bad("mus", 0, MISPLACED);
        bad("MUST 1=1", 0, MISPLACED);
        bad("musT 1=1", 0, MISPLACED);
        bad("mustT 1=1", 4, MISPLACED);
        bad("must 1=1 And 1=1", 9, MISPLACED);
        bad("must 1=1 ands 1=1", 9, MISPLACED);
        bad("must C0=1", 5, MISPLACED);
        bad("must c 0=1", 5, MISPLACED);
        bad("must c01=1", 5, MISPLACED);
        bad("must 1c=1", 5, MISPLACED);
        bad("must 12345a=1", 5, MISPLACED);
        bad("must 1 1=1", 7, MISPLACED);
        good("must 1=1;must 1=1", 2);
        good("must 1=c0;night h0=1", 2);
        good("must c0>c0;must h0<h0", 2);
    }

    /** Each word of the rules with one of its bytes left out, told twice or made another. */
    private static void wordsByteByByte() {
        String[][] texts = {{"", "must", " 1=1"}, {"", "night", " 1=1"}, {"", "wish", " 1 1=1"},
            {"must 1=1 ", "and", " 1=1"}};
        for (String[] text : texts) {
            String word = text[1];
            good(text[0] + word + text[2], 1);
            for (int i = 0; i < word.length(); i++) {
                String ahead = text[0] + word.substring(0, i);
                String behind = word.substring(i + 1) + text[2];
                char letter = word.charAt(i);
                bad(ahead + behind, text[0].length(), MISPLACED);
                bad(ahead + letter + letter + behind, text[0].length(), MISPLACED);
                bad(ahead + "0" + behind, text[0].length(), MISPLACED);
                bad(ahead + (char) (letter - 32) + behind, text[0].length(), MISPLACED);
                bad(ahead + (char) (letter + 128) + behind, text[0].length(), MISPLACED);
                bad(ahead + (char) (letter + 1) + behind, text[0].length(), MISPLACED);
                bad(ahead + (char) (letter - 1) + behind, text[0].length(), MISPLACED);
            }
        }
    }

    private static void numbersOfDigits() {
        for (int digits = 1; digits <= 4; digits++) {
            good("must " + "9".repeat(digits) + "=" + "0".repeat(digits), 1);
        }
        for (int digits = 5; digits <= 490; digits += digits < 40 ? 1 : 50) {
            bad("must " + "9".repeat(digits), 5, WRONG_NUMBER);
            bad("must 1=" + "0".repeat(digits), 7, WRONG_NUMBER);
            bad("wish " + "0".repeat(digits - 1) + "1", 5, WRONG_NUMBER);
        }
        // Numbers that wrap around to 1 in 32 and in 64 bits.
        bad("wish 4294967297 1=1", 5, WRONG_NUMBER);
        bad("wish 18446744073709551617 1=1", 5, WRONG_NUMBER);
        bad("must 1=4294967297", 7, WRONG_NUMBER);
    }

    private static void numbersOfWishes() {
        for (int number = 0; number <= 9999; number += number < 300 ? 1 : 97) {
            if (number >= 1 && number <= 100) {
                good("wish " + number + " 1=1", 1);
                good("wish " + String.format("%04d", number) + " 1=1", 1);
                bad("wish " + String.format("%05d", number) + " 1=1", 5, WRONG_NUMBER);
            } else {
                bad("wish " + number + " 1=1", 5, WRONG_NUMBER);
                bad("wish " + String.format("%04d", number) + " 1=1", 5, WRONG_NUMBER);
            }
        }
        bad("wish 9999 1=1", 5, WRONG_NUMBER);
        good("must 0=9999 and 101=0", 1);
    }

    private static void numbersOfFields() {
        for (int field = 0; field < 100; field++) {
            for (String side : new String[] {"c", "h"}) {
                if (field < 8) {
                    good("must " + side + field + "=1", 1);
                    good("must 1=" + side + field, 1);
                } else {
                    bad("must " + side + field + "=1", 5, MISPLACED);
                    bad("must 1=" + side + field, 7, MISPLACED);
                }
            }
        }
    }

    private static void rulesUpToTwenty() {
        for (int n = 1; n <= 20; n++) {
            good(times("must 1=1", ";", n), n);
            good(times("wish 100 c0<h7", " ; ", n), n);
            bad(times("night 1=1", ";", n) + ";", 10 * n, MISPLACED);
        }
        for (int n = 21; n <= 50; n++) {
            bad(times("must 1=1", ";", n), 180, TOO_MANY);
        }
        bad(times("must 1=1", ";", 20) + " ; wish", 182, TOO_MANY);
        good(times("must 1=1 and 1=1 and 1=1", ";", 20) + " ", 20);
        good(Desks.longestRules(), 20);
        bad(times("must 1=1", ";", 20) + ";;must 1=1", 180, MISPLACED);
        bad(times("must 1=1", ";", 20) + " must 1=1", 180, MISPLACED);
    }

    private static void termsUpToSix() {
        for (String kind : new String[] {"must ", "night ", "wish 7 "}) {
            int head = kind.length();
            for (int n = 1; n <= 6; n++) {
                good(kind + times("1=1", " and ", n), 1);
                bad(kind + times("1=1", " and ", n) + " and ", head + 8 * n, MISPLACED);
            }
            for (int n = 7; n <= 20; n++) {
                bad(kind + times("1=1", " and ", n), head + 48, TOO_MANY);
            }
            bad(kind + times("c0<h0", " and ", 6) + " and h7", head + 60, TOO_MANY);
        }
        String six = "must " + times("1=1", " and ", 6);
        good(times(six, ";", 10), 10);
        bad(times(six, ";", 9) + ";" + six + " and 1", 494, TOO_MANY);
        // Terms are counted anew in each rule.
        good("must 1=1 and 2=2 and 3=3 and 4=4;must 1=1 and 2=2 and 3=3 and 4=4", 2);
    }

    /** Each of many terms is kept in its place: the one that is not so is found. */
    private static void manyTerms() {
        String six = "must " + times("1=1", " and ", 6);
        String ten = times(six, ";", 10);
        for (int rule = 0; rule < 10; rule++) {
            for (int term = 0; term < 6; term++) {
                int place = rule * 49 + 5 + 8 * term;
                HomeFinder desk = pair();
                Check.read(desk, ten.substring(0, place) + "2" + ten.substring(place + 1));
                due("14: term " + term + " of rule " + rule, desk.bars(0, 0), 10 + rule);
            }
        }
        for (int rule = 0; rule < 20; rule++) {
            HomeFinder desk = pair();
            String text = times("must 1=1", ";", 20);
            Check.read(desk, text.substring(0, 9 * rule + 7) + "2" + text.substring(9 * rule + 8));
            due("14: rule " + rule, desk.bars(0, 0), 10 + rule);
        }
    }

    private static HomeFinder pair() {
        HomeFinder desk = Desks.homes(1);
        Desks.children(desk, 0);
        return desk;
    }

    private static void leastOfOneWord() {
        String twenty = times("must 1=1", ";", 20) + ";";
        bad(twenty + "must", 180, TOO_MANY);
        bad(twenty + "musts", 180, MISPLACED);
        bad(twenty + "00000", 180, MISPLACED);
        bad(twenty, 180, MISPLACED);
        bad(twenty + "   ", 183, MISPLACED);
        String six = "must " + times("1=1", " and ", 6) + " and ";
        bad(six + "9999", 53, TOO_MANY);
        bad(six + "99999", 53, WRONG_NUMBER);
        bad(six + "c7", 53, TOO_MANY);
        bad(six + "c8", 53, MISPLACED);
        bad(six + "and", 53, MISPLACED);
        bad(six + ";", 53, MISPLACED);
        bad(six, 53, MISPLACED);
        bad("must 1=1 00000", 9, MISPLACED);
        bad("00000 1=1", 0, MISPLACED);
        bad("must 1 00000", 7, MISPLACED);
        bad("wish c00000", 5, MISPLACED);
    }

    private static void firstAlongTheText() {
        bad("wish 0 12345=!", 5, WRONG_NUMBER);
        bad("must ! = 12345", 5, MISPLACED);
        bad("must 12345 !", 5, WRONG_NUMBER);
        bad("must 1=1;wish 101 1=1;may", 14, WRONG_NUMBER);
        bad("must 1=1;may 1=1;wish 101 1=1", 9, MISPLACED);
        String six = "must " + times("1=1", " and ", 6) + " and ";
        bad(six + "1=12345", 53, TOO_MANY);
        bad("wish 0 1=1;" + six + "1=1", 5, WRONG_NUMBER);
    }

    private static void tapeIsEmptyThen() {
        HomeFinder desk = new HomeFinder();
        due("14: an empty tape", desk.rules(), 0);
        due("13: it stays empty", desk.end(0), 0);
        due("13: it has not so many", desk.end(1), HomeFinder.NONE);
        due("14: the longest", Check.read(desk, Desks.longestRules()), 20);
        due("14: empty then", desk.count(6), 0);
        due("13: what it had is gone", desk.end(500), HomeFinder.NONE);
        due("12: it begins anew", desk.feed(0, 0, 0, 0, 0), 20);
        due("14: a fault", desk.rules(), -2 - 1);
        due("14: empty then", desk.count(6), 0);
        due("14: what it had does not come back", desk.rules(), 0);
        due("14: no RULES", desk.count(4), 0);
        due("12: full again", Check.read(desk, "must" + " ".repeat(496)), -2 - (1 + 8 * 500));
        due("12: it begins anew", desk.feed(0, 0, 0, 0, 0), 20);
        due("13: cut to nothing", desk.end(0), 0);
        due("14: nothing has no RULES", desk.rules(), 0);
    }

    private static void thoseAheadStay() {
        String twenty = times("must 1=1", ";", 20) + ";";
        String six = "must " + times("2=2", " and ", 6) + " and ";
        String[] faults = {"!", "must", "wish 1 1=1;wish 0 1=1", "night 00000", twenty + "must",
            "wish 50 1=1;must 3=3;" + six + "1=1", twenty + "may", " ;"};
        for (String fault : faults) {
            HomeFinder desk = pair();
            Check.read(desk, "wish 3 1=1;must 1=1;wish 4 1=1 and 2=2;must 1=2;night 1=3");
            CHECK.due("14: '" + fault + "' is a fault", Check.read(desk, fault) < -2, true);
            due("14: the five stay", desk.count(4), 5);
            due("14: with their wishes", desk.wish(0, 0), 7);
            due("14: with their musts", desk.bars(0, 0), 13);
            desk.need(0, 10, 20, true);
            due("14: with their night rules", desk.bars(0, 0), 14);
            due("14: in their place", Check.read(desk, "wish 1 1=1"), 1);
            due("14: none of them bars", desk.bars(0, 0), 0);
            due("14: none of them wishes", desk.wish(0, 0), 1);
            due("14: blanks in their place", Check.read(desk, "  "), 0);
            due("14: none wishes", desk.wish(0, 0), 0);
        }
    }

    /** Behind a fault all is as it was, but for the tape. */
    private static void nothingElseHappens() {
        HomeFinder emptied = Desks.busy();
        emptied.end(0);
        String want = State.of(emptied);
        String six = "must " + times("2=2", " and ", 6) + " and ";
        for (String fault : new String[] {"?", "must", "wish 101 1=1", "must 12345=1", six + "c0",
            times("must 1=2", ";", 20) + ";night"}) {
            HomeFinder desk = Desks.busy();
            desk.end(0);
            CHECK.due("14: '" + fault + "' is a fault", Check.read(desk, fault) < -2, true);
            CHECK.same("14: behind '" + fault + "'", State.of(desk), want);
        }
    }
}
