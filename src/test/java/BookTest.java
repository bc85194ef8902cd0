/** Promises 32 and 33: a BOOK judged line by line, and lived. */
public final class BookTest {
    private static final String TEXT = "ground 4 3;stones 3 0 9;house hall 0 0 5 10;house hut 3 2 1 4;person ann 1 0;"
        + "person bob 1 0;sun east 1;sun west 1;";

    private static void fault(String text, int kind, int place) {
        ShadowHeirs x = Due.made(TEXT);
        Due.book(x, "hour 3;", 1);
        String before = Due.state(x);
        for (int lives = 0; lives < 2; lives++) {
            Due.same("book of " + text, Due.book(x, text, lives), -2 - place);
            Due.same("fault of " + text, x.fault(), kind);
            Due.same("all stays", Due.state(x), before);
            Due.same("told is of the one before", x.told(2), 3);
        }
        Due.same("nothing to undo", x.undo(), 0);
    }

    private static void marked(String text, int kind) {
        int place = text.indexOf('@');
        fault(text.substring(0, place) + text.substring(place + 1), kind, place);
    }

    private static void faults() {
        marked("@;", 1);
        marked("@3;", 1);
        marked("@Ann east;", 1);
        marked("@east;", 1);
        marked("@shaded;", 1);
        marked("@house;", 1);
        marked("ann east@", 1);
        marked("ann@", 1);
        marked("ann@;", 1);
        marked("ann @up;", 1);
        marked("ann @lay;", 1);
        marked("ann @3;", 1);
        marked("ann east @east;", 1);
        marked("lay@;", 1);
        marked("lay 0@;", 1);
        marked("lay 0 0@", 1);
        marked("lay 0 0 @0;", 1);
        marked("tear @ann 0;", 1);
        marked("bury@;", 1);
        marked("bury @3;", 1);
        marked("bury @hour;", 1);
        marked("bury hall @hut;", 1);
        marked("hour@;", 1);
        marked("hour @ann;", 1);
        marked("hour @1000;", 1);
        marked("lay @8 0;", 2);
        marked("lay 0 @8;", 2);
        marked("tear @8 0;", 2);
        marked("tear 0 @8;", 2);
        marked("hour @0;", 2);
        marked("hour @61;", 2);
        marked("@nobody east;", 3);
        marked("@hall east;", 3);
        marked("bury @nothing;", 3);
        marked("bury @ann;", 3);
        marked("ann west;hour 2;@nobody", 3);
    }

    private static void manyLines() {
        String forty = Due.times("hour 1;", 40);
        ShadowHeirs x = Due.made(TEXT);
        Due.same("40 LINES", Due.book(x, forty, 1), -1);
        Due.same("lived", x.told(1), 40);
        Due.same("HOUR", x.now(0), 40);
        marked(forty + "@hour 1;", 4);
        marked(forty + "@ann east;", 4);
        marked(forty + "@hour 0", 4);
        marked(forty + "@nobody east;", 3);
        marked(forty + "@hall", 3);
        marked(forty + "@;", 1);
        marked(forty + "@sun", 1);
        marked(forty + "@H", 1);
        String line = "hour 1;";
        x = Due.made(TEXT);
        Due.same("400 bytes", Due.book(x, line + Due.times(" ", 393), 0), -1);
        fault(line + Due.times(" ", 394), 1, 400);
        fault(line + Due.times("\n", 500), 1, 400);
        fault(line + Due.times(" ", 392) + "hour 1;", 1, 400);
        fault(line + Due.times(" ", 392) + "nobody east;", 3, 399);
        fault(line + Due.times(" ", 388) + "hour99", 1, 395);
    }

    /** What a BOOK of one WRONG LINE behind a right one answers. */
    private static void wrong(String line, int why) {
        ShadowHeirs x = Due.made(TEXT);
        Due.same("WRONG: " + line, Due.book(x, "hour 1;" + line + ";hour 5;", 0), 1);
        Due.same("why: " + line, x.told(0), why);
        Due.same("LINES that are not", x.told(1), 1);
        Due.same("the HOUR then", x.told(2), 1);
        Due.same("all stays", x.now(0), 0);
        Due.same("lived", Due.book(x, "hour 1;" + line + ";hour 5;", 1), 1);
        Due.same("as far as it is not WRONG", x.now(0), 1);
        Due.same("undone", x.undo(), 0);
        Due.same("undone", x.now(0), 0);
    }

    private static void whys() {
        wrong("ann north", 1);
        wrong("ann west", 2);
        wrong("lay 0 0", 11);
        wrong("lay 1 0", 12);
        wrong("lay 3 0", 13);
        wrong("lay 4 0", 19);
        wrong("lay 0 3", 19);
        wrong("lay 7 7", 19);
        wrong("tear 0 0", 21);
        wrong("tear 2 0", 21);
        wrong("tear 4 0", 29);
        wrong("tear 0 7", 29);
        wrong("bury hut;bury hut", 31, 2);
        ShadowHeirs x = Due.made(TEXT);
        for (int i = 0; i < 6; i++) {
            x.hours(60);
        }
        Due.same("fewer are left", Due.book(x, "hour 41;", 1), 0);
        Due.same("why", x.told(0), 41);
        Due.same("HOUR", x.now(0), 360);
        Due.same("to the last", Due.book(x, "hour 39;hour 1;", 1), -1);
        Due.same("HOUR", x.now(0), 400);
        Due.same("over", Due.book(x, "hour 1;", 0), 0);
        Due.same("why", x.told(0), 41);
    }

    private static void wrong(String lines, int why, int at) {
        ShadowHeirs x = Due.made(TEXT);
        Due.same("WRONG: " + lines, Due.book(x, "hour 1;" + lines + ";hour 5;", 0), at);
        Due.same("why: " + lines, x.told(0), why);
    }

    private static void judgedAndLived() {
        ShadowHeirs x = Due.made(TEXT);
        String text = "ann east ; bob south\n;lay 1 0;tear 1 0;bury hall;hour 60;bury hut;hour 1;";
        String before = Due.state(x);
        Due.same("judged", Due.book(x, text, 0), -1);
        int[] told = {0, 8, 61, 10};
        for (int what = 0; what < 4; what++) {
            Due.same("told " + what, x.told(what), told[what]);
        }
        Due.same("what 4", x.told(4), -1);
        Due.same("what -1", x.told(-1), -1);
        Due.same("all stays", Due.state(x), before);
        Due.same("nothing to undo", x.undo(), -1);
        Due.same("lived", Due.book(x, text, 1), -1);
        for (int what = 0; what < 4; what++) {
            Due.same("told " + what, x.told(what), told[what]);
        }
        ShadowHeirs y = Due.made(TEXT);
        y.go(0, 0);
        y.go(1, 1);
        y.lay(1, 0);
        y.tear(1, 0);
        y.bury(0);
        y.hours(60);
        y.bury(1);
        y.hours(1);
        Due.same("as by calls", Due.state(x), Due.state(y));
        Due.same("one act", x.undo(), 0);
        Due.same("undone whole", Due.state(x), before);
        Due.same("told stays", x.told(1), 8);
        for (int lives : new int[] {-1, 2, 3, Integer.MAX_VALUE, Integer.MIN_VALUE}) {
            Due.same("another lives", x.book(lives), -1000);
        }
        Due.same("told stays", x.told(1), 8);
        Due.same("an empty BOOK", Due.book(x, " ", 1), -1);
        Due.same("no LINES", x.told(1), 0);
        Due.same("nothing to undo", x.undo(), -1);
        Due.same("the first is WRONG", Due.book(x, "ann north;hour 1;", 1), 0);
        Due.same("nothing to undo", x.undo(), -1);
        Due.same("ahead of any", new ShadowHeirs().told(0), -1);
    }

    public static void main(String[] args) {
        faults();
        manyLines();
        whys();
        judgedAndLived();
        Due.finish("BookTest");
    }
}
