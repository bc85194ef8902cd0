/** Texts with the answer that is due, and with the FAULT that is due at the mark '@' (which is no part of the text). */
final class Texts {
    /** Where BOOKS and SENTENCES are read: the shadow of the hall touches ann and bob, later on that of the hut dot. */
    static final String PLACE = "ground 6 4;stones 3 0 9;stones 3 1 2;house hall 0 1 6 31;house hut 5 3 4 9;"
        + "person ann 1 1;person bob 2 1;person cid 2 0;person dot 5 1;sun east 1;sun north 1;";

    private Texts() {
    }

    private static String unmarked(String marked) {
        int place = marked.indexOf('@');
        return marked.substring(0, place) + marked.substring(place + 1);
    }

    static void island(String text, int lines) {
        ShadowHeirs x = new ShadowHeirs();
        Due.same("island of " + text, Due.island(x, text), lines);
        Due.same("no FAULT in " + text, x.fault(), 0);
        Due.same("the tape is empty", x.count(5), 0);
    }

    static void islandFault(String marked, int kind) {
        islandFault(unmarked(marked), kind, marked.indexOf('@'));
    }

    static void islandFault(String text, int kind, int place) {
        ShadowHeirs x = Due.made("ground 3 2;stones 1 1 2;person old 0 0;sun east 1;");
        Due.sentence(x, "x = 0");
        x.lay(1, 1);
        String before = Due.state(x);
        Due.same("island of " + text, Due.island(x, text), -1 - place);
        Due.same("FAULT of " + text, x.fault(), kind);
        Due.same("the tape is empty", x.count(5), 0);
        Due.same("it stays", Due.state(x), before);
        Due.same("its SENTENCE, too", x.said(-1), 1);
        Due.same("its acts, too", x.undo(), 0);
    }

    /** A BOOK in which no LINE is WRONG. */
    static void book(String text, int lines) {
        ShadowHeirs x = Due.made(PLACE);
        Due.same("book of " + text, Due.book(x, text, 0), -1);
        Due.same("no FAULT in " + text, x.fault(), 0);
        Due.same("LINES of " + text, x.told(1), lines);
        Due.same("the tape is empty", x.count(5), 0);
    }

    static void bookFault(String marked, int kind) {
        bookFault(unmarked(marked), kind, marked.indexOf('@'));
    }

    static void bookFault(String text, int kind, int place) {
        for (int lives = 0; lives < 2; lives++) {
            ShadowHeirs x = Due.made(PLACE);
            Due.book(x, "hour 3;tear 3 1;", 1);
            String before = Due.state(x);
            Due.same("book of " + text, Due.book(x, text, lives), -2 - place);
            Due.same("FAULT of " + text, x.fault(), kind);
            Due.same("the tape is empty", x.count(5), 0);
            Due.same("all stays", Due.state(x), before);
            Due.same("what the BOOK before told, too", x.told(1), 2);
            Due.same("its acts, too", x.undo(), 0);
        }
    }

    static void sentence(String text, int ones) {
        ShadowHeirs x = Due.made(PLACE);
        Due.same("sentence of " + text, Due.sentence(x, text), ones);
        Due.same("no FAULT in " + text, x.fault(), 0);
        Due.same("the tape is empty", x.count(5), 0);
    }

    static void sentenceFault(String marked, int kind) {
        sentenceFault(unmarked(marked), kind, marked.indexOf('@'));
    }

    static void sentenceFault(String text, int kind, int place) {
        ShadowHeirs x = Due.made(PLACE);
        Due.sentence(x, "number = 2");
        Due.same("sentence of " + text, Due.sentence(x, text), -1 - place);
        Due.same("FAULT of " + text, x.fault(), kind);
        Due.same("the tape is empty", x.count(5), 0);
        Due.same("it stays", x.said(0), 2);
        Due.same("of one", x.said(-1), 1);
    }

    /** On this ISLAND the SENTENCE is said of the PERSONS with these bits. */
    static void said(ShadowHeirs x, String text, int bits) {
        Due.yes("sentence: " + text, Due.sentence(x, text) > 0);
        Due.same("how many: " + text, x.said(-1), Integer.bitCount(bits));
        int k = 0;
        for (int p = 0; p < 6; p++) {
            if ((bits >> p & 1) == 1) {
                Due.same("the one with number " + k + ": " + text, x.said(k), p);
                k++;
            }
        }
        Due.same("no more: " + text, x.said(k), -1);
    }

    static String blanks(int n) {
        return " ".repeat(n);
    }
}
