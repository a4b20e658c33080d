/** Compares answers with those that are due, prints each that differs, and ends the test. */
final class Check {
    private int calls;
    private int wrong;

    void due(String call, long got, long want) {
        calls++;
        if (got != want) {
            wrong++;
            System.out.println(call + " answered " + got + ", due is " + want);
        }
    }

    void due(String call, boolean got, boolean want) {
        due(call, got ? 1 : 0, want ? 1 : 0);
    }

    /** Compares two states, and prints the lines that differ. */
    void same(String what, String got, String want) {
        calls++;
        if (got.equals(want)) {
            return;
        }
        wrong++;
        String[] gotLines = got.split("\n");
        String[] wantLines = want.split("\n");
        System.out.println(what + ": something has changed");
        for (int i = 0; i < Math.min(gotLines.length, wantLines.length); i++) {
            if (!gotLines[i].equals(wantLines[i])) {
                System.out.println("  " + gotLines[i] + ", ahead of it: " + wantLines[i]);
            }
        }
    }

    void finish() {
        System.out.println(calls + " answers, " + wrong + " of them not as due");
        if (wrong != 0 || calls == 0) {
            System.exit(1);
        }
    }

    /** Feeds a text of characters 0 to 255 and cuts the tape behind it. */
    static void type(HomeFinder desk, String text) {
        int had = desk.count(6);
        for (int from = 0; from < text.length(); from += 20) {
            desk.feed(word(text, from), word(text, from + 4), word(text, from + 8),
                    word(text, from + 12), word(text, from + 16));
        }
        desk.end(had + text.length());
    }

    /** The answer of rules() for a text. */
    static int read(HomeFinder desk, String text) {
        type(desk, text);
        return desk.rules();
    }

    static int word(String text, int from) {
        int word = 0;
        for (int i = from; i < from + 4; i++) {
            word = word << 8 | (i < text.length() ? text.charAt(i) & 255 : 0);
        }
        return word;
    }
}
