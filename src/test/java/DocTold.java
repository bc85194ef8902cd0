import java.util.ArrayList;
import java.util.List;

/** The document's sentences about draws, and promises 30 to 38: BOOKS, SENTENCES, images, counts. */
final class DocTold {
    private static final int LEAST = Integer.MIN_VALUE;
    private static final int MOST = Integer.MAX_VALUE;
    private static final String WIDE = "ground 7 3;house a 0 0 9 99;house b 6 2 9 50;house c 3 1 5 20;person p 1 0;"
        + "person q 5 2;person r 3 0;sun east 1;sun west 1;sun south 1;";

    private DocTold() {
    }

    private static void terms(String words, Runnable test) {
        Doc.says("Terms", words, test);
    }

    private static void says(int promise, String words, Runnable test) {
        Doc.says("Promise " + promise, words, test);
    }

    static void all() {
        draws();
        drawn();
        odds();
        books();
        told();
        sentences();
        images();
        counts();
    }

    /** The draws of a seed, reckoned with longs. */
    private static final class Dice {
        private final List<String> log = new ArrayList<>();
        private long x;
        private int wide;
        private int high;
        private int houses;
        private int persons;

        Dice(int seed) {
            x = seed;
        }

        Dice(int seed, ShadowHeirs o) {
            x = seed;
            wide = o.count(0);
            high = o.count(1);
            houses = o.count(2);
            persons = o.count(3);
        }

        int draw(int n) {
            x = x * 1103515245L + 12345L & 0xFFFFFFFFL;
            int drawn = (int) ((x >> 8) % n);
            log.add(n + ":" + drawn);
            return drawn;
        }
    }

    /** One HOUR by draws, done by the calls of the face. */
    private static void hourByCalls(ShadowHeirs x, Dice dice) {
        for (int p = 0; p < dice.persons; p++) {
            int act = dice.draw(6);
            if (act < 4) {
                x.go(p, act);
            } else if (act == 4) {
                int cx = dice.draw(dice.wide);
                x.lay(cx, dice.draw(dice.high));
            }
        }
        if (dice.draw(10) == 0 && dice.houses > 0) {
            x.bury(dice.draw(dice.houses));
        }
        x.hours(1);
    }

    private static int lowByte(int x) {
        return x & 255;
    }

    /** A seed by which the first draw is of this x: the step of the draws taken back. */
    private static int seedBefore(int x) {
        int inverse = 1;
        for (int i = 0; i < 5; i++) {
            inverse *= 2 - 1103515245 * inverse;
        }
        return (x - 12345) * inverse;
    }

    private static void draws() {
        terms("DRAWN by a seed x: for each draw of n x becomes x * 1103515245 + 12345 (an int, wrapping), the draw is "
            + "(x >>> 8) % n:", () -> {
            // the first x is 256 by the act: that SIDE is gone to; a seed for any first x, above 0 and below it
            int[][] at = {{3, 2}, {2, 3}, {1, 2}, {2, 1}};
            for (int high = 0; high < 256; high += 5) {
                for (int act = 0; act < 6; act++) {
                    int first = (high << 16 | 777) / 6 * 6 + act;
                    int x = first << 8 | lowByte(high * 31);
                    ShadowHeirs o = Due.made("person p 2 2;");
                    Due.same("an HOUR", o.drawn(1, seedBefore(x)), 1);
                    Due.same("a draw of 6: " + act, o.now(6), act < 4 ? 1 : 0);
                    if (act < 4) {
                        Due.same("X", o.person(0, 0), at[act][0]);
                        Due.same("Y", o.person(0, 1), at[act][1]);
                    }
                }
            }
            for (int seed : new int[] {0, 1, -1, LEAST, MOST, 1 << 30, -12345, 987654321}) {
                sameByCalls(WIDE, seed, 3);
            }
        });
        terms("each HOUR: PERSON by PERSON: a draw of 6: below 4: he GOES to that SIDE;", () -> {
            for (int seed = 0; seed < 40; seed++) {
                ShadowHeirs x = Due.made("person p 2 2;person q 2 2;");
                Dice dice = new Dice(seed);
                int[] xs = {2, 2};
                int[] ys = {2, 2};
                for (int p = 0; p < 2; p++) {
                    int act = dice.draw(6);
                    xs[p] += act == 0 ? 1 : act == 2 ? -1 : 0;
                    ys[p] += act == 1 ? 1 : act == 3 ? -1 : 0;
                    if (act == 4) {
                        dice.draw(5);
                        dice.draw(5);
                    }
                }
                x.drawn(1, seed);
                for (int p = 0; p < 2; p++) {
                    // a stone may have been laid where q would go: left out
                    if (x.now(7) == 0) {
                        Due.same("X of " + p, x.person(p, 0), xs[p]);
                        Due.same("Y of " + p, x.person(p, 1), ys[p]);
                    }
                }
            }
        });
        terms("4: a draw of WIDE, of HIGH: a stone is LAID there;", () -> {
            int laid = 0;
            for (int seed = 0; seed < 200; seed++) {
                Dice dice = new Dice(seed);
                if (dice.draw(6) == 4) {
                    int cx = dice.draw(8);
                    int cy = dice.draw(3);
                    ShadowHeirs x = Due.made("ground 8 3;person p 0 0;");
                    x.drawn(1, seed);
                    boolean isOnHim = cx == 0 && cy == 0;
                    Due.same("laid", x.now(7), isOnHim ? 0 : 1);
                    Due.same("there", x.cell(cx, cy, 0), isOnHim ? 0 : 1);
                    laid++;
                }
            }
            Due.yes("some were laid", laid > 20);
        });
        terms("then a draw of 10: 0: a draw of all HOUSES (none: no draw): it is BURIED (each, if it can be); then the "
            + "HOUR.", () -> {
            int buried = 0;
            for (int seed = 0; seed < 200; seed++) {
                ShadowHeirs x = Due.made("house a 0 0 9 9;house b 1 1 9 9;house c 2 2 9 9;sun west 1;");
                Dice dice = new Dice(seed);
                int bits = dice.draw(10) == 0 ? 1 << dice.draw(3) : 0;
                x.drawn(1, seed);
                Due.same("buried by " + seed, x.now(2), bits);
                Due.same("then the HOUR", x.now(0), 1);
                buried += bits == 0 ? 0 : 1;
                int then = dice.draw(10) == 0 ? 1 << dice.draw(3) : 0;
                ShadowHeirs two = Due.made("house a 0 0 9 9;house b 1 1 9 9;house c 2 2 9 9;sun west 1;");
                two.drawn(2, seed);
                Due.same("buried in two by " + seed, two.now(2), bits | then);
            }
            Due.yes("some were buried", buried > 5);
            // without HOUSES no draw of them: it would be seen in where one goes later
            for (int seed = 0; seed < 100; seed++) {
                sameByCalls("person p 2 2;", seed, 4);
            }
            // a burial goes by the hour ahead of the next one
            for (int seed = 0; seed < 60; seed++) {
                sameByCalls("house a 2 2 9 90;person p 3 2;person q 1 2;sun east 1;sun west 1;", seed, 6);
            }
        });
    }

    private static void sameByCalls(String text, int seed, int n) {
        ShadowHeirs drawn = Due.made(text);
        ShadowHeirs called = Due.made(text);
        Dice dice = new Dice(seed, called);
        for (int i = 0; i < n; i++) {
            hourByCalls(called, dice);
        }
        Due.same("drawn", drawn.drawn(n, seed), n);
        Due.same("by " + dice.log, Due.state(drawn), Due.state(called));
    }

    /** An object at this HOUR. */
    private static ShadowHeirs at(String text, int hour) {
        ShadowHeirs x = Due.made(text);
        for (int left = hour; left > 0; left -= 60) {
            x.hours(Math.min(left, 60));
        }
        Due.same("the HOUR", x.now(0), hour);
        return x;
    }

    private static void drawn() {
        says(30, "n (1 to 60) HOURS DRAWN by a seed: how many went by;", () -> {
            for (int n : new int[] {1, 2, 59, 60}) {
                sameByCalls(WIDE, 4242 + n, n);
            }
            sameByCalls("ground 8 8;" + "house a 3 3 9 99;" + "person p 0 0;person q 1 1;person r 2 2;person s 3 4;"
                + "person t 4 4;person u 5 5;sun north 1;", 31, 30);
            for (int left : new int[] {0, 1, 2, 59, 60}) {
                ShadowHeirs x = at(WIDE, 400 - left);
                String before = Due.state(x);
                Due.same("as many as are left", x.drawn(60, 7), left);
                Due.same("the HOUR", x.now(0), 400);
                if (left == 0) {
                    Due.same("nothing is done", Due.state(x), before);
                }
            }
        });
        says(30, "NONE: not as told.", () -> {
            for (int n : new int[] {0, -1, 61, LEAST, MOST}) {
                ShadowHeirs x = Due.made(WIDE);
                String before = Due.state(x);
                Due.same("drawn " + n, x.drawn(n, 1), -1);
                Due.same("nothing is changed", Due.state(x), before);
                Due.same("nothing to undo", x.undo(), -1);
            }
        });
    }

    /** Odds by drawing and undoing. */
    private static int oddsByDrawn(String text, int hour, int p, int n, int seed) {
        int more = 0;
        for (int i = 0; i < n; i++) {
            ShadowHeirs x = at(text, hour);
            int has = x.person(p, 2);
            x.drawn(20, seed + i);
            more += x.person(p, 2) > has ? 1 : 0;
        }
        return more;
    }

    /** The first seed by which the first PERSON gets something in that HOUR, and nothing ahead of it. */
    private static int seedOfFirst(String text, int hour) {
        for (int seed = 0; seed < 100000; seed++) {
            ShadowHeirs x = Due.made(text);
            x.drawn(hour - 1, seed);
            if (x.person(0, 2) == 0) {
                x.undo();
                x.drawn(hour, seed);
                if (x.person(0, 2) > 0) {
                    return seed;
                }
            }
        }
        throw new IllegalStateException("no seed by which something is got in HOUR " + hour);
    }

    private static void odds() {
        says(31, "Of n (1 to 30) seeds x, x and 1, .. by how many a PERSON has more than now behind 20 HOURS DRAWN from now "
            + "on;", () -> {
            String text = "ground 4 2;house a 0 0 9 99;house b 3 1 9 99;person p 1 0;person q 2 1;sun east 1;sun west 1;";
            int some = 0;
            for (int n : new int[] {1, 2, 29, 30}) {
                for (int seed : new int[] {0, 100, -5, MOST - 1, MOST, LEAST}) {
                    for (int p = 0; p < 2; p++) {
                        ShadowHeirs x = Due.made(text);
                        String before = Due.state(x);
                        int due = oddsByDrawn(text, 0, p, n, seed);
                        Due.same("odds of " + n + " by " + seed, x.odds(p, n, seed), due);
                        Due.same("all stays", Due.state(x), before);
                        Due.same("nothing to undo", x.undo(), -1);
                        some += due;
                    }
                }
            }
            Due.yes("some get something", some > 50);
            for (int left : new int[] {0, 1, 5, 19, 20, 21}) {
                Due.same("no more than are left: " + left, at(text, 400 - left).odds(0, 30, 3),
                    oddsByDrawn(text, 400 - left, 0, 30, 3));
            }
            ShadowHeirs rich = Due.made(text);
            rich.bury(0);
            rich.bury(1);
            Due.same("nobody gets more than now", rich.odds(0, 30, 0), 0);
            Due.same("who gets it in the 20th HOUR has it", Due.made(text).odds(0, 1, seedOfFirst(text, 20)), 1);
            Due.same("who gets it in the 21st has it not", Due.made(text).odds(0, 1, seedOfFirst(text, 21)), 0);
        });
        says(31, "NONE: no such ones.", () -> {
            ShadowHeirs x = Due.made(WIDE);
            for (int p : new int[] {-1, 3, 6, LEAST, MOST}) {
                Due.same("PERSON " + p, x.odds(p, 1, 1), -1);
            }
            for (int n : new int[] {0, -1, 31, LEAST, MOST}) {
                Due.same("n " + n, x.odds(0, n, 1), -1);
            }
            Due.same("nobody", new ShadowHeirs().odds(0, 1, 1), -1);
        });
    }

    private static void books() {
        String text = "ann south;lay 1 1;bury hall;hour 2;tear 1 1;";
        says(32, "The tape is a BOOK: it is judged, all staying as it is (lives 0),", () -> {
            ShadowHeirs x = Due.made(Texts.PLACE);
            String before = Due.state(x);
            Due.same("right", Due.book(x, text, 0), -1);
            Due.same("all stays", Due.state(x), before);
            Due.same("WRONG", Due.book(x, text + "tear 1 1;", 0), 5);
            Due.same("all stays", Due.state(x), before);
            Due.same("nothing to undo", x.undo(), -1);
            Due.same("each LINE behind those ahead of it", Due.book(x, "lay 4 0;".repeat(9), 0), -1);
            Due.same("nine are as many as can be", Due.book(x, "lay 4 0;".repeat(10), 0), 9);
        });
        says(32, "or lived as far as it is not WRONG (1):", () -> {
            ShadowHeirs x = Due.made(Texts.PLACE);
            ShadowHeirs y = Due.made(Texts.PLACE);
            Due.same("right", Due.book(x, text, 1), -1);
            y.go(0, 1);
            y.lay(1, 1);
            y.bury(0);
            y.hours(2);
            y.tear(1, 1);
            Due.same("as by calls", Due.state(x), Due.state(y));
            Due.same("one act", x.undo(), 0);
            ShadowHeirs part = Due.made(Texts.PLACE);
            Due.same("the third is WRONG", Due.book(part, "ann south;lay 1 1;ann north;hour 60;", 1), 2);
            ShadowHeirs same = Due.made(Texts.PLACE);
            same.go(0, 1);
            same.lay(1, 1);
            Due.same("as far as that", Due.state(part), Due.state(same));
            Due.same("one act", part.undo(), 0);
            Due.same("all of it undone", Due.state(part), Due.state(Due.made(Texts.PLACE)));
            ShadowHeirs first = Due.made(Texts.PLACE);
            Due.same("the first is WRONG", Due.book(first, "ann west;hour 60;", 1), 0);
            Due.same("nothing is lived", Due.state(first), Due.state(Due.made(Texts.PLACE)));
            Due.same("nothing to undo", first.undo(), -1);
        });
        says(32, "the LINE that is WRONG; NONE: none;", () -> {
            for (int n = 0; n < 40; n++) {
                ShadowHeirs x = Due.made(Texts.PLACE);
                Due.same("LINE " + n, Due.book(x, "hour 1;".repeat(n) + "tear 0 0;", 0), n);
                Due.same("LINE " + n, Due.book(x, "hour 1;".repeat(n) + "tear 0 0;" + "hour 9;".repeat(39 - n), 1), n);
                Due.same("none", Due.book(x, "hour 1;".repeat(n), 0), -1);
            }
            Due.same("an empty one", Due.book(new ShadowHeirs(), "", 1), -1);
        });
        says(32, "-2 less the place of a FAULT;", () -> {
            Texts.bookFault("@.", 1);
            Texts.bookFault("hour 1;@.", 1);
            Texts.bookFault(Texts.blanks(399) + "@.", 1);
            Texts.bookFault(Texts.blanks(400) + "@.", 1);
            ShadowHeirs x = Due.made(Texts.PLACE);
            Due.same("a FAULT comes ahead of a WRONG LINE", Due.book(x, "tear 0 0;hour 0;", 1), -2 - 14);
        });
        says(32, "-1000: another lives (the tape stays).", () -> {
            ShadowHeirs x = Due.made(Texts.PLACE);
            Due.book(x, "hour 3;", 1);
            Due.tape(x, "hour 7;");
            for (int lives : new int[] {-1, 2, 3, -1000, LEAST, MOST}) {
                Due.same("lives " + lives, x.book(lives), -1000);
                Due.same("the tape stays", x.count(5), 7);
                Due.same("told stays", x.told(2), 3);
                Due.same("the HOUR stays", x.now(0), 3);
            }
            Due.same("it is a BOOK still", x.book(1), -1);
            Due.same("the HOUR", x.now(0), 10);
        });
    }

    /** What is told of a BOOK in which one LINE is WRONG behind some that are not. */
    private static void wrong(String right, String line, int why) {
        for (int lives = 0; lives < 2; lives++) {
            ShadowHeirs x = Due.made(Texts.PLACE);
            int n = right.length() - right.replace(";", "").length();
            Due.same("WRONG: " + line, Due.book(x, right + line + ";hour 9;", lives), n);
            Due.same("why: " + line, x.told(0), why);
            Due.same("LINES that are not: " + line, x.told(1), n);
        }
    }

    private static void told() {
        says(33, "Of the latest book() that had no FAULT (and was not -1000):", () -> {
            ShadowHeirs x = Due.made(Texts.PLACE);
            Due.book(x, "hour 5;tear 0 0;", 0);
            Due.book(x, "hour 0;", 1);
            x.book(5);
            Due.same("why", x.told(0), 21);
            Due.same("LINES", x.told(1), 1);
            Due.same("HOUR", x.told(2), 5);
            Due.book(x, "", 0);
            int[] none = {0, 0, 0, 0};
            for (int what = 0; what < 4; what++) {
                Due.same("of an empty one", x.told(what), none[what]);
            }
            Due.book(x, "hour 5;", 0);
            Due.island(x, "");
            Due.same("it stays for a new ISLAND", x.told(2), 5);
        });
        says(33, "0 why it was WRONG (0: it was not; 1, 2 as for going, 11 to 13 laying, 21 tearing, 31 burying; 19, 29: "
            + "there is no such cell; 41: fewer HOURS are left),", DocTold::whys);
        says(33, "1 LINES that are not, 2 the HOUR then, 3 what PERSONS have in all then.", () -> {
            for (int lives = 0; lives < 2; lives++) {
                ShadowHeirs x = Due.made(Texts.PLACE);
                x.hours(8);
                int hour = lives * 5;
                Due.same("book", Due.book(x, "bury hall;hour 4;hour 1;tear 0 0;hour 60;bury hut;", lives), 3);
                Due.same("LINES", x.told(1), 3);
                Due.same("the HOUR then", x.told(2), 13);
                Due.same("what they have then", x.told(3), 30);
                Due.same("the HOUR now", x.now(0), 8 + hour);
                Due.same("what they have now", x.now(4), 30 * lives);
                x.hours(60);
                Due.same("then, not now", x.told(2), 13);
            }
            ShadowHeirs full = Due.made(Texts.PLACE);
            Due.book(full, "hour 1;".repeat(40), 0);
            Due.same("40", full.told(1), 40);
            ShadowHeirs rich = Due.made(Texts.PLACE);
            rich.bury(0);
            Due.book(rich, "", 0);
            Due.same("what they have already", rich.told(3), 30);
        });
        says(33, "NONE: another what, or ahead of any.", () -> {
            ShadowHeirs x = Due.made(Texts.PLACE);
            for (int what = 0; what < 4; what++) {
                Due.same("ahead of any", x.told(what), -1);
            }
            Due.book(x, "hour 0;", 1);
            x.book(3);
            Due.same("ahead of any without a FAULT", x.told(0), -1);
            Due.book(x, "hour 1;", 1);
            for (int what : new int[] {-1, 4, LEAST, MOST}) {
                Due.same("what " + what, x.told(what), -1);
            }
        });
    }

    private static void whys() {
        wrong("", "cid north", 1);
        wrong("hour 1;", "dot east", 1);
        wrong("", "ann west", 2);
        wrong("", "cid east", 2);
        wrong("ann south;lay 1 1;", "ann north", 2);
        wrong("", "lay 0 1", 11);
        wrong("", "lay 5 3", 11);
        wrong("", "lay 2 1", 12);
        wrong("ann south;", "lay 1 2", 12);
        wrong("", "lay 3 0", 13);
        wrong("lay 4 0;".repeat(9), "lay 4 0", 13);
        wrong("", "tear 0 0", 21);
        wrong("", "tear 0 1", 21);
        wrong("", "tear 1 1", 21);
        wrong("tear 3 1;tear 3 1;", "tear 3 1", 21);
        wrong("bury hut;", "bury hut", 31);
        wrong("bury hall;hour 1;bury hut;", "bury hall", 31);
        for (String at : new String[] {"6 0", "0 4", "7 7", "6 3", "5 4"}) {
            wrong("hour 1;", "lay " + at, 19);
            wrong("hour 1;", "tear " + at, 29);
        }
        wrong("hour 60;".repeat(6) + "hour 40;", "hour 1", 41);
        wrong("hour 60;".repeat(6), "hour 41", 41);
        wrong("hour 60;".repeat(6) + "hour 1;", "hour 60", 41);
        ShadowHeirs x = Due.made(Texts.PLACE);
        Due.same("just as many as are left", Due.book(x, "hour 60;".repeat(6) + "hour 40;", 1), -1);
        Due.same("it was not", x.told(0), 0);
        Due.same("all are over", x.now(0), 400);
        Due.same("none is left", Due.book(x, "hour 1;", 1), 0);
        Due.same("why", x.told(0), 41);
        ShadowHeirs few = at(Texts.PLACE, 395);
        Due.same("fewer are left", Due.book(few, "hour 6;", 1), 0);
        Due.same("no HOUR goes by", few.now(0), 395);
        Due.same("then", few.told(2), 395);
        Due.same("as many as are left", Due.book(few, "hour 5;", 1), -1);
    }

    private static void sentences() {
        says(34, "The tape is the SENTENCE now: how many ONES (each not, bracket and other one);", () -> {
            Texts.sentence("poor", 1);
            Texts.sentence("not poor", 2);
            Texts.sentence("(poor)", 2);
            Texts.sentence("not (poor)", 3);
            Texts.sentence("(not poor)", 3);
            Texts.sentence("of hall and wealth > 1 or x = 1 and y = 1 or number = 1", 5);
            Texts.sentence("shaded and poor and heir", 3);
            Texts.sentence("not (x = 1 or not y = 1) and (poor)", 7);
            ShadowHeirs x = Due.made(Texts.PLACE);
            Texts.said(x, "number = 1", 2);
            Texts.said(x, "number = 2", 4);
            Due.same("an empty one is a FAULT", Due.sentence(x, ""), -1);
            Due.same("it stays", x.said(0), 2);
        });
        says(34, "-1 less the place of a FAULT: it stays.", () -> {
            Texts.sentenceFault("@.", 1);
            Texts.sentenceFault("poor@.", 1);
            Texts.sentenceFault(Texts.blanks(199) + "@.", 1);
            Texts.sentenceFault(Texts.blanks(200) + "@.", 1);
            Texts.sentenceFault("poor or of @sea", 3);
            Texts.sentenceFault("not not not not not not not not @not", 4);
            ShadowHeirs none = Due.made(Texts.PLACE);
            Due.sentence(none, "poor or");
            Due.same("there is none still", none.said(-1), -1);
        });
        says(35, "PERSONS of whom it may be said: how many (k NONE), or the k-th.", () -> {
            String six = "person p 0 0;person q 1 0;person r 0 0;person s 1 0;person t 1 0;person u 2 0;";
            ShadowHeirs x = Due.made(six);
            Texts.said(x, "x = 1", 26);
            Texts.said(x, "not x = 1", 37);
            Texts.said(x, "poor", 63);
            Texts.said(x, "heir", 0);
            Texts.said(x, "x = 2", 32);
            x.go(5, 0);
            Due.same("as it is now", x.said(-1), 0);
            x.undo();
            Due.same("as it is now", x.said(0), 5);
        });
        says(35, "NONE: there is no SENTENCE, none such.", () -> {
            ShadowHeirs x = Due.made(Texts.PLACE);
            for (int k : new int[] {-1, 0, 1, LEAST, MOST}) {
                Due.same("no SENTENCE: " + k, x.said(k), -1);
            }
            Due.sentence(x, "x = 2");
            Due.same("two", x.said(-1), 2);
            for (int k : new int[] {-2, 2, 3, 6, LEAST, MOST}) {
                Due.same("none such: " + k, x.said(k), -1);
            }
            Due.sentence(x, "heir");
            Due.same("of none", x.said(-1), 0);
            Due.same("none such", x.said(0), -1);
            Due.island(x, Texts.PLACE);
            Due.same("a new ISLAND has none", x.said(-1), -1);
        });
    }

    private static void images() {
        says(36, "ISLAND, all that is so and the SENTENCE are kept in place k (0, 1): true;", () -> {
            ShadowHeirs x = Due.made(Texts.PLACE);
            Due.yes("image", x.image(0));
            String first = Due.state(x);
            x.go(0, 1);
            x.lay(1, 1);
            x.tear(3, 0);
            x.bury(0);
            x.hours(3);
            Due.sentence(x, "heir and not x = 1");
            int said = x.said(-1);
            String second = Due.state(x);
            Due.yes("image", x.image(1));
            Due.same("an image changes nothing", Due.state(x), second);
            Due.same("nor what can be undone", x.undo(), 4);
            Due.island(x, "ground 8 8;stones 7 7 7;house z 0 0 1 1;person hallo 5 5;sun west 9;sun west 9;sun west 9;");
            Due.sentence(x, "poor");
            Due.yes("restore", x.restore(1));
            Due.same("as kept", Due.state(x), second);
            Due.same("the SENTENCE, too", x.said(-1), said);
            Due.same("NAMES, too", Due.slip(x, 3).substring(0, 4), "dot ");
            Due.yes("restore", x.restore(0));
            Due.same("as kept", Due.state(x), first);
            Due.same("no SENTENCE was kept there", x.said(-1), -1);
            Due.same("its HOUSES can be named", Due.sentence(x, "of hut"), 1);
            Due.yes("and again", x.restore(1));
            Due.same("the HOUR as kept", x.now(0), 3);
        });
        says(36, "are kept in place k", () -> {
            ShadowHeirs x = Due.made(Texts.PLACE);
            x.hours(1);
            x.image(0);
            x.hours(1);
            x.image(1);
            x.hours(1);
            Due.yes("anew", x.image(0));
            x.hours(1);
            Due.yes("restore 0", x.restore(0));
            Due.same("the latest one", x.now(0), 3);
            Due.yes("restore 1", x.restore(1));
            Due.same("the other one is left alone", x.now(0), 2);
            x.bury(0);
            x.lay(0, 0);
            x.go(0, 1);
            Due.yes("restore 1", x.restore(1));
            Due.same("acts behind restoring are not in the image", x.now(2) + x.now(6) + x.now(7), 0);
        });
        says(36, "false: no such one.", () -> {
            ShadowHeirs x = Due.made(Texts.PLACE);
            x.hours(1);
            x.image(0);
            x.image(1);
            x.hours(1);
            for (int k : new int[] {-1, 2, LEAST, MOST}) {
                Due.no("image " + k, x.image(k));
            }
            x.restore(0);
            Due.same("0 was left alone", x.now(0), 1);
            x.restore(1);
            Due.same("1 was left alone", x.now(0), 1);
        });
        says(37, "They are as kept in place k (the tape, and what other calls told last, stays; nothing can be undone): true;",
            DocTold::restored);
        says(37, "false: no such one, or nothing is kept there.", () -> {
            ShadowHeirs x = Due.made(Texts.PLACE);
            x.hours(1);
            Due.sentence(x, "poor");
            String before = Due.state(x);
            for (int k : new int[] {-1, 0, 1, 2, LEAST, MOST}) {
                Due.no("restore " + k, x.restore(k));
            }
            x.image(1);
            Due.no("restore 0", x.restore(0));
            Due.same("all stays", Due.state(x), before);
            Due.same("the SENTENCE, too", x.said(-1), 4);
            Due.same("what can be undone, too", x.undo(), 0);
            Due.yes("restore 1", x.restore(1));
            Due.same("as kept", Due.state(x), before);
        });
    }

    private static void restored() {
        ShadowHeirs x = Due.made(Texts.PLACE);
        x.image(0);
        x.slip(3);
        x.longest();
        x.spare(3, 0, 0);
        Due.tape(x, 0, 3, 1);
        x.when();
        int ask = x.ask();
        Due.book(x, "hour 3;tear 0 0;", 1);
        Due.sentence(x, "of sea");
        Due.island(x, "sun east 1;");
        Due.book(x, "hour 3;.", 1);
        x.hours(2);
        Due.tape(x, "hour 60;");
        Due.yes("restore", x.restore(0));
        Due.same("the HOUR", x.now(0), 0);
        Due.same("the FAULT stays", x.fault(), 1);
        Due.same("the SLIP stays", x.byteAt(0), 'd');
        Due.same("LONGEST stays", x.longestAt(1), 0);
        Due.same("SPARE stays", x.spareAt(), 11);
        Due.same("ASK stays", x.ask(), ask);
        Due.same("told stays", x.told(0), 21);
        Due.same("nothing can be undone", x.undo(), -1);
        Due.same("the tape stays", x.count(5), 8);
        Due.same("it is a BOOK", x.book(1), -1);
        Due.same("the HOUR", x.now(0), 60);
        Due.same("that can be undone", x.undo(), 0);
        Due.same("as kept", Due.state(x), Due.state(Due.made(Texts.PLACE)));
    }

    private static void counts() {
        says(38, "0 WIDE, 1 HIGH, 2 HOUSES, 3 PERSONS, 4 hours of the table, 5 bytes of the tape.", () -> {
            ShadowHeirs x = Due.made(WIDE + "sun north 1;sun north 1;");
            Due.tape(x, "abc");
            int[] want = {7, 3, 3, 3, 5, 3};
            for (int what = 0; what < 6; what++) {
                Due.same("count " + what, x.count(what), want[what]);
            }
            x.bury(0);
            Due.same("a buried HOUSE is one still", x.count(2), 3);
            ShadowHeirs full = new ShadowHeirs();
            Due.tape(full, new int[940]);
            Due.same("a full tape", full.count(5), 940);
        });
        says(38, "NONE for another what.", () -> {
            ShadowHeirs x = Due.made(WIDE);
            for (int what : new int[] {-1, 6, 7, LEAST, MOST}) {
                Due.same("count " + what, x.count(what), -1);
            }
        });
    }
}
