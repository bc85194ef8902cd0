/** The document's sentences about the tape, SHADOWS, acts and HOURS, and promises 1 to 15. */
final class DocActs {
    private static final int LEAST = Integer.MIN_VALUE;
    private static final int MOST = Integer.MAX_VALUE;
    private static final String[] SIDES = {"east", "south", "west", "north"};
    private static final String SIX_ON_ONE =
        "person p 1 0;person q 1 0;person r 1 0;person s 1 0;person t 1 0;person u 1 0;";

    private DocActs() {
    }

    private static void terms(String words, Runnable test) {
        Doc.says("Terms", words, test);
    }

    private static void says(int promise, String words, Runnable test) {
        Doc.says("Promise " + promise, words, test);
    }

    static void all() {
        heights();
        shadows();
        goingAndStones();
        burials();
        hoursOfNow();
        newObjectAndTape();
        island();
        asked();
        acts();
        undone();
    }

    /** Runs a call that must change nothing of what is so, nor of what can be undone. */
    private static void changesNothing(ShadowHeirs x, Runnable call) {
        String before = Due.state(x);
        call.run();
        Due.same("nothing is changed", Due.state(x), before);
        Due.same("nothing can be undone", x.undo(), -1);
    }

    private static void heights() {
        terms("A cell is as high as its stones, or its HOUSE (0 without).", () -> {
            for (int n = 1; n <= 9; n++) {
                ShadowHeirs x = Due.made("stones 0 4 " + n + ";house a 4 0 " + (10 - n) + " 7;person p 2 2;");
                Due.same("stones", x.cell(0, 4, 0), n);
                Due.same("a HOUSE", x.cell(4, 0, 0), 10 - n);
                Due.same("bare", x.cell(1, 1, 0), 0);
                Due.same("under a PERSON", x.cell(2, 2, 0), 0);
            }
        });
    }

    /** Cells that a SHADOW touches on a way with one cell that is some high (at 0: none is). */
    private static int cells(int high, int drop, int at, int stones) {
        int n = 0;
        for (int step = 1; step <= 7; step++) {
            if (high - step * drop <= (step == at ? stones : 0)) {
                return n;
            }
            n++;
        }
        return n;
    }

    /** A line on a ground of 8 by 8 told for a SHADOW to the east, turned to another SIDE. */
    private static String turned(int side, int along) {
        int at = side < 2 ? along : 7 - along;
        return side % 2 == 0 ? at + " 3" : "3 " + at;
    }

    private static void shadows() {
        terms("At an hour of the table the SHADOW of a HOUSE falls to that SIDE: in the first cell on it is as high as the "
            + "HOUSE less DROP, in each next one DROP less.", () -> {
            for (int side = 0; side < 4; side++) {
                for (int high = 1; high <= 9; high++) {
                    StringBuilder text = new StringBuilder("ground 8 8;house a " + turned(side, 0) + " " + high + " 0;");
                    for (int drop = 1; drop <= 8; drop++) {
                        text.append("sun ").append(SIDES[side]).append(' ').append(drop).append(';');
                    }
                    ShadowHeirs x = Due.made(text.toString());
                    for (int drop = 1; drop <= 8; drop++) {
                        Due.same(SIDES[side] + " high " + high + " drop " + drop, x.shadow(0, drop - 1),
                            cells(high, drop, 0, 0));
                    }
                }
            }
        });
        terms("A cell on the way is TOUCHED, if the SHADOW is higher there than the cell; where it is not, and at the rim, "
            + "the SHADOW ends.", () -> {
            for (int at = 1; at <= 7; at++) {
                for (int stones = 1; stones <= 9; stones++) {
                    int side = (at + stones) % 4;
                    ShadowHeirs x = Due.made("ground 8 8;house a " + turned(side, 0) + " 9 0;stones " + turned(side, at)
                        + " " + stones + ";sun " + SIDES[side] + " 1;sun " + SIDES[side] + " 2;");
                    Due.same("drop 1", x.shadow(0, 0), cells(9, 1, at, stones));
                    Due.same("drop 2", x.shadow(0, 1), cells(9, 2, at, stones));
                    ShadowHeirs y = Due.made("ground 8 8;house a " + turned(side, 0) + " 9 0;house b " + turned(side, at)
                        + " " + stones + " 0;sun " + SIDES[side] + " 1;");
                    Due.same("a HOUSE on the way", y.shadow(0, 0), cells(9, 1, at, stones));
                }
            }
            for (int wide = 2; wide <= 8; wide++) {
                ShadowHeirs x = Due.made("ground " + wide + " 2;house a 0 0 9 0;sun east 1;sun west 1;sun north 1;"
                    + "sun south 1;");
                Due.same("to the rim", x.shadow(0, 0), wide - 1);
                Due.same("west at the rim", x.shadow(0, 1), 0);
                Due.same("north at the rim", x.shadow(0, 2), 0);
                Due.same("south, one to the rim", x.shadow(0, 3), 1);
            }
        });
        terms("(A cell that is 0 high is TOUCHED as long as the SHADOW is above 0.)", () -> {
            ShadowHeirs x = Due.made("ground 8 2;house a 0 0 6 0;house b 0 1 2 0;sun east 2;");
            int[] touched = {0, 3, 1, 0, 0, 0, 0, 0};
            int[] low = {0, 0, 0, 0, 0, 0, 0, 0};
            for (int at = 0; at < 8; at++) {
                Due.same("at " + at + " (4, 2, 0)", x.cell(at, 0, 3), touched[at] == 0 ? 0 : 1);
                Due.same("at " + at + " (0 at once)", x.cell(at, 1, 3), low[at]);
            }
        });
    }

    private static void goingAndStones() {
        terms("To GO to a SIDE: why not: 1 there is no cell; 2 there are stones or a HOUSE: he is there.", () -> {
            int[][] way = {{1, 0}, {0, 1}, {-1, 0}, {0, -1}};
            for (int wide = 2; wide <= 8; wide++) {
                ShadowHeirs x = Due.made("ground " + wide + " " + (10 - wide) + ";person p 0 0;person q " + (wide - 1)
                    + " " + (9 - wide) + ";");
                changesNothing(x, () -> {
                    Due.same("west: no cell", x.go(0, 2), 1);
                    Due.same("north: no cell", x.go(0, 3), 1);
                    Due.same("east: no cell", x.go(1, 0), 1);
                    Due.same("south: no cell", x.go(1, 1), 1);
                });
            }
            for (int side = 0; side < 4; side++) {
                int tx = 2 + way[side][0];
                int ty = 2 + way[side][1];
                for (String what : new String[] {"stones " + tx + " " + ty + " 1;", "stones " + tx + " " + ty + " 9;",
                    "house a " + tx + " " + ty + " 1 0;"}) {
                    ShadowHeirs x = Due.made("person p 2 2;" + what);
                    int to = side;
                    changesNothing(x, () -> Due.same(what, x.go(0, to), 2));
                }
                ShadowHeirs x = Due.made("person p 2 2;person q " + tx + " " + ty + ";");
                Due.same("to where somebody is", x.go(0, side), 0);
                Due.same("he is there", x.cell(tx, ty, 2), 3);
                Due.same("X", x.person(0, 0), tx);
                Due.same("Y", x.person(0, 1), ty);
                Due.same("he is not here", x.cell(2, 2, 2), 0);
            }
        });
        terms("To LAY a stone in a cell: why not, the least: 1 there is a HOUSE; 2 somebody is there; 3 it is 9 high: it is "
            + "1 higher.", () -> {
            ShadowHeirs x = Due.made("house a 0 0 1 0;house b 1 0 9 0;person p 2 0;person q 2 0;stones 3 0 9;");
            changesNothing(x, () -> {
                Due.same("a HOUSE", x.lay(0, 0), 1);
                Due.same("a HOUSE that is 9 high, too", x.lay(1, 0), 1);
                Due.same("somebody", x.lay(2, 0), 2);
                Due.same("9 high", x.lay(3, 0), 3);
            });
            ShadowHeirs y = new ShadowHeirs();
            for (int n = 1; n <= 9; n++) {
                Due.same("lay", y.lay(4, 4), 0);
                Due.same("1 higher", y.cell(4, 4, 0), n);
            }
            Due.same("9 high", y.lay(4, 4), 3);
            Due.same("no higher", y.cell(4, 4, 0), 9);
            ShadowHeirs gone = Due.made("person p 0 0;");
            gone.go(0, 0);
            Due.same("nobody is there any more", gone.lay(0, 0), 0);
            ShadowHeirs all = Due.made("ground 8 8;");
            for (int i = 0; i < 64; i++) {
                Due.same("in any cell", all.lay(i % 8, i / 8), 0);
                Due.same("it is 1 higher", all.cell(i % 8, i / 8, 0), 1);
                Due.same("and no other one", all.now(3), i + 1);
            }
        });
        terms("To TEAR one off: 1 there are no stones: it is 1 lower.", () -> {
            ShadowHeirs x = Due.made("house a 0 0 9 0;person p 2 0;stones 3 0 9;");
            changesNothing(x, () -> {
                Due.same("a HOUSE", x.tear(0, 0), 1);
                Due.same("bare", x.tear(1, 0), 1);
                Due.same("somebody", x.tear(2, 0), 1);
            });
            for (int n = 8; n >= 0; n--) {
                Due.same("tear", x.tear(3, 0), 0);
                Due.same("1 lower", x.cell(3, 0, 0), n);
            }
            Due.same("none left", x.tear(3, 0), 1);
            Due.same("no lower", x.cell(3, 0, 0), 0);
            Due.same("one can go there", x.go(0, 0), 0);
            StringBuilder full = new StringBuilder("ground 8 8;");
            for (int i = 0; i < 64; i++) {
                full.append("stones ").append(i % 8).append(' ').append(i / 8).append(" 2;");
            }
            ShadowHeirs all = Due.made(full.toString());
            for (int i = 0; i < 64; i++) {
                Due.same("in any cell", all.tear(i % 8, i / 8), 0);
                Due.same("it is 1 lower", all.cell(i % 8, i / 8, 0), 1);
                Due.same("and no other one", all.now(3), 127 - i);
            }
        });
    }

    private static void burials() {
        terms("To BURY a HOUSE (who owned it): 1 it is buried: each PERSON whom its SHADOW touches now gets an equal part "
            + "of its GOODS (whole, cut), the rest goes to the SEA; nobody: all of it.", () -> {
            String[] all = {"p", "q", "r", "s", "t", "u"};
            for (int goods : new int[] {0, 1, 5, 6, 7, 11, 12, 60, 98, 99}) {
                for (int n = 0; n <= 6; n++) {
                    StringBuilder text = new StringBuilder("house a 0 0 9 " + goods + ";sun east 1;");
                    for (int p = 0; p < 6; p++) {
                        text.append("person ").append(all[p]).append(p < n ? " 1 0;" : " 1 1;");
                    }
                    ShadowHeirs x = Due.made(text.toString());
                    Due.same("bury", x.bury(0), 0);
                    int part = n == 0 ? 0 : goods / n;
                    for (int p = 0; p < 6; p++) {
                        Due.same(goods + " among " + n, x.person(p, 2), p < n ? part : 0);
                    }
                    Due.same("the SEA of " + goods + " among " + n, x.now(5), goods - n * part);
                    String then = Due.state(x);
                    Due.same("it is buried", x.bury(0), 1);
                    Due.same("nothing is changed", Due.state(x), then);
                }
            }
            ShadowHeirs late = Due.made("house a 2 2 9 7;person p 3 2;person q 1 2;sun east 1;sun west 1;");
            late.hours(1);
            late.bury(0);
            Due.same("not he whom it touched before", late.person(0, 2), 0);
            Due.same("but he whom it touches now", late.person(1, 2), 7);
            ShadowHeirs twice = Due.made("house a 0 0 9 99;house b 0 1 9 99;house c 0 2 9 99;house d 0 3 9 99;"
                + "house e 0 4 9 99;person p 1 0;sun east 1;");
            for (int h = 0; h < 5; h++) {
                Due.same("bury", twice.bury(h), 0);
                twice.go(0, 1);
            }
            Due.same("all GOODS there can be", twice.person(0, 2), 495);
        });
        terms("The HOUSE stays where it is, its GOODS are 0.", () -> {
            ShadowHeirs x = Due.made("house a 0 0 9 99;person p 1 0;sun east 1;");
            x.bury(0);
            Due.same("GOODS", x.house(0, 3), 0);
            Due.same("X", x.house(0, 0), 0);
            Due.same("Y", x.house(0, 1), 0);
            Due.same("how high", x.house(0, 2), 9);
            Due.same("its cell", x.cell(0, 0, 1), 0);
            Due.same("its cell is as high", x.cell(0, 0, 0), 9);
            Due.same("its SHADOW", x.shadow(0, 0), 4);
            Due.same("nobody goes there", x.go(0, 2), 2);
            Due.same("nobody lays there", x.lay(0, 0), 1);
        });
    }

    /** An object at this HOUR. */
    private static ShadowHeirs at(String text, int hour) {
        ShadowHeirs x = Due.made(text);
        for (int left = hour; left > 0; left -= 60) {
            x.hours(Math.min(left, 60));
        }
        Due.same("the HOUR", x.now(0), hour);
        return x;
    }

    private static void hoursOfNow() {
        terms("The hour of now is the HOUR modulo how many the table has (none: no SHADOWS).", () -> {
            for (int n = 1; n <= 8; n++) {
                String text = "sun east 1;".repeat(n - 1) + "house a 0 0 9 0;sun south 1;";
                for (int hour : new int[] {0, 1, n - 1, n, n + 1, 2 * n - 1, 2 * n, 398, 399, 400}) {
                    ShadowHeirs x = at(text, hour);
                    Due.same("the hour of the table", x.now(1), hour % n);
                    Due.same("the last one is to the south", x.cell(0, 1, 3), hour % n == n - 1 ? 1 : 0);
                    Due.same("the others to the east", x.cell(1, 0, 3), hour % n == n - 1 ? 0 : 1);
                }
            }
            for (int hour : new int[] {0, 7, 400}) {
                ShadowHeirs x = at("house a 0 0 9 9;person p 1 0;person q 0 1;", hour);
                Due.same("no hour of the table", x.now(1), -1);
                Due.same("touches nobody", x.house(0, 5), 0);
                Due.same("nobody is touched", x.person(0, 3), 0);
                Due.same("no cell", x.cell(1, 0, 3), 0);
                x.bury(0);
                Due.same("all of it to the SEA", x.now(5), 9);
            }
        });
        terms("An HOUR (0 to 399; 400: all are over) goes: it is the next HOUR.", () -> {
            ShadowHeirs x = at("", 398);
            Due.same("to 399", x.hours(1), 1);
            Due.same("HOUR", x.now(0), 399);
            Due.same("to 400", x.hours(1), 1);
            Due.same("HOUR", x.now(0), 400);
            Due.same("all are over", x.hours(1), 0);
            Due.same("HOUR", x.now(0), 400);
            Due.same("from 0", new ShadowHeirs().now(0), 0);
            ShadowHeirs over = at("house a 0 0 9 9;person p 1 0;sun east 1;", 400);
            Due.same("one can go", over.go(0, 0), 0);
            Due.same("and lay", over.lay(3, 0), 0);
            Due.same("and tear", over.tear(3, 0), 0);
            Due.same("and bury", over.bury(0), 0);
            Due.same("SHADOWS are there", over.person(0, 2), 9);
        });
    }

    private static void newObjectAndTape() {
        says(1, "An ISLAND of 5 by 5, all of it bare; an empty tape.", () -> {
            ShadowHeirs x = new ShadowHeirs();
            int[] counts = {5, 5, 0, 0, 0, 0};
            for (int what = 0; what < 6; what++) {
                Due.same("count " + what, x.count(what), counts[what]);
            }
            for (int i = 0; i < 25; i++) {
                Due.same("bare", x.cell(i % 5, i / 5, 0), 0);
                Due.same("no HOUSE", x.cell(i % 5, i / 5, 1), -1);
                Due.same("nobody", x.cell(i % 5, i / 5, 2), 0);
                Due.same("no SHADOW", x.cell(i % 5, i / 5, 3), 0);
            }
            Due.same("no sixth column", x.cell(5, 4, 0), -1);
            Due.same("no sixth row", x.cell(4, 5, 0), -1);
            int[] nows = {0, -1, 0, 0, 0, 0, 0, 0};
            for (int what = 0; what < 8; what++) {
                Due.same("now " + what, x.now(what), nows[what]);
            }
            Due.same("an empty tape is an ISLAND of no LINES", x.island(), 0);
        });
        says(2, "Twenty bytes come behind the tape, of each number the highest first: how many it has;", () -> {
            ShadowHeirs x = new ShadowHeirs();
            for (int i = 0; i < 20; i++) {
                int[] n = {0x20202020, 0x20202020, 0x20202020, 0x20202020, 0x20202020};
                // byte i alone is no blank: 255, so that a sign that is kept would show
                n[i / 4] = n[i / 4] & ~(255 << 24 - i % 4 * 8) | 255 << 24 - i % 4 * 8;
                Due.same("feed", x.feed(n[0], n[1], n[2], n[3], n[4]), 20);
                Due.same("byte " + i, x.island(), -1 - i);
                Due.same("no TOKEN", x.fault(), 1);
            }
            Due.same("feed", x.feed(0x73756E20, 0x65617374, 0x20313B73, 0x756E2077, 0x65737420), 20);
            Due.same("behind it", x.feed(0x323B2020, 0x20202020, 0x20202020, 0x20202020, 0x0A0A0A0A), 40);
            Due.same("sun east 1;sun west 2;", x.island(), 2);
            Due.same("feed", x.feed(0, 0, 0, 0, 0), 20);
            x.end(7);
            Due.same("behind the first seven", x.feed(-1, -1, -1, -1, -1), 27);
        });
        says(2, "NONE, and none come, if it would have more than 940.", () -> {
            ShadowHeirs x = new ShadowHeirs();
            for (int i = 1; i <= 46; i++) {
                Due.same("feed", x.feed(0, 0, 0, 0, 0), 20 * i);
            }
            Due.same("to 940", x.feed(0, 0, 0, 0, 0), 940);
            Due.same("full", x.feed(0, 0, 0, 0, 0), -1);
            Due.same("none come", x.count(5), 940);
            x.end(921);
            Due.same("to 941", x.feed(0, 0, 0, 0, 0), -1);
            Due.same("none come", x.count(5), 921);
            x.end(920);
            Due.same("to 940", x.feed(0, 0, 0, 0, 0), 940);
            x.end(919);
            Due.same("to 939", x.feed(0, 0, 0, 0, 0), 939);
        });
        says(3, "The tape has its first n bytes alone: true;", () -> {
            ShadowHeirs x = new ShadowHeirs();
            Due.yes("0 of 0", x.end(0));
            Due.tape(x, "sun east 1;sun west 1;");
            Due.yes("all of them", x.end(22));
            Due.same("22", x.count(5), 22);
            Due.yes("one less", x.end(21));
            Due.same("21", x.count(5), 21);
            Due.yes("the first LINE", x.end(11));
            Due.same("is an ISLAND", x.island(), 1);
            Due.tape(x, "sun east 1;");
            Due.yes("none", x.end(0));
            Due.same("is an ISLAND of none", x.island(), 0);
            // what was cut is not read: neither blanks nor the rest of a TOKEN
            for (int n = 0; n < 20; n++) {
                x.feed(0x20202020, 0x20202020, 0x20202020, 0x20202020, 0x20202020);
                x.end(n);
                Due.same("the end of " + n + " blanks", x.sentence(), -1 - n);
            }
            x.feed(0x73756E20, 0x65617374, 0x20202020, 0x2031393B, 0x20202020);
            x.end(9);
            Due.same("sun east, and blanks cut", x.island(), -1 - 9);
            x.feed(0x73756E20, 0x65617374, 0x20202020, 0x2031393B, 0x20202020);
            x.end(14);
            Due.same("sun east 1, cut in 19", x.island(), -1 - 14);
            Due.same("1 is as told", x.fault(), 1);
            x.feed(0x73756E20, 0x65617374, 0x20202020, 0x2031393B, 0x20202020);
            x.end(6);
            Due.same("cut in east", x.island(), -1 - 4);
        });
        says(3, "false, if it has not so many, or n is below 0.", () -> {
            ShadowHeirs x = new ShadowHeirs();
            Due.no("1 of 0", x.end(1));
            Due.no("-1 of 0", x.end(-1));
            Due.tape(x, "sun east 1;");
            for (int n : new int[] {12, 13, 940, 941, MOST, -1, -11, LEAST}) {
                Due.no("end " + n, x.end(n));
                Due.same("it stays", x.count(5), 11);
            }
            x.end(5);
            Due.no("what was cut is gone", x.end(6));
            Due.same("it stays", x.count(5), 5);
        });
    }

    private static void island() {
        says(4, "The tape (empty then, with a FAULT, too, here and below) is the ISLAND now: how many LINES;", () -> {
            ShadowHeirs x = new ShadowHeirs();
            Due.same("none", x.island(), 0);
            Due.same("one", Due.island(x, "ground 3 4;"), 1);
            Due.same("WIDE", x.count(0), 3);
            Due.same("empty then", x.count(5), 0);
            Due.island(x, "ground 3 4");
            Due.same("with a FAULT, too", x.count(5), 0);
            Due.book(x, "hour 1;", 0);
            Due.same("empty behind a BOOK", x.count(5), 0);
            Due.book(x, "hour 0;", 1);
            Due.same("with a FAULT, too", x.count(5), 0);
            Due.sentence(x, "poor");
            Due.same("empty behind a SENTENCE", x.count(5), 0);
            Due.sentence(x, "rich");
            Due.same("with a FAULT, too", x.count(5), 0);
            Due.tape(x, 9, 9, 9);
            Due.same("not as told", x.when(), -1);
            Due.same("empty then, too", x.count(5), 0);
            Due.same("an empty one is an ISLAND again", x.island(), 0);
            Due.same("5 by 5", x.count(0), 5);
        });
        says(4, "-1 less the place of a FAULT: it stays.", () -> {
            Texts.islandFault("@.", 1);
            Texts.islandFault("s@.", 1, 0);
            Texts.islandFault("sun east 1;@.", 1);
            Texts.islandFault(Texts.blanks(899) + "@.", 1);
            Texts.islandFault(Texts.blanks(900) + "@.", 1);
        });
        terms("A new ISLAND: HOUR 0, nobody has anything, nothing is buried, the SEA has 0, no SENTENCE.", () -> {
            String text = "house a 0 0 9 11;person p 1 0;person q 2 0;stones 3 0 1;sun east 1;";
            ShadowHeirs x = Due.made(text);
            x.hours(9);
            x.bury(0);
            x.go(0, 1);
            x.lay(3, 0);
            Due.sentence(x, "heir");
            Due.same("somebody has something", x.now(4), 10);
            Due.same("the SEA has some", x.now(5), 1);
            Due.same("island", Due.island(x, text), 5);
            int[] nows = {0, 0, 0, 1, 0, 0, 0, 0};
            for (int what = 0; what < 8; what++) {
                Due.same("now " + what, x.now(what), nows[what]);
            }
            Due.same("wealth", x.person(0, 2), 0);
            Due.same("GOODS", x.house(0, 3), 11);
            Due.same("not buried", x.house(0, 4), 0);
            Due.same("no SENTENCE", x.said(-1), -1);
            Due.same("as a new object's", Due.state(x), Due.state(Due.made(text)));
            Due.same("nothing to undo", x.undo(), -1);
            // nothing of the ISLAND before, nor of one with a FAULT, is left over
            String full = "ground 8 7;stones 0 0 1;stones 1 1 9;house a 2 2 9 9;person p 3 3;sun east 1;";
            ShadowHeirs y = Due.made(full);
            Due.island(y, full + "stones 4 4 4;house b 5 5 5 5;person q 6 6;sun west 1;.");
            Due.same("a FAULT: it stays", Due.state(y), Due.state(Due.made(full)));
            Due.island(y, "sun north 2;");
            Due.same("a LINE alone", Due.state(y), Due.state(Due.made("sun north 2;")));
            Due.island(y, "person p 3 3;");
            Due.same("a LINE alone", Due.state(y), Due.state(Due.made("person p 3 3;")));
        });
        says(5, "The kind of the FAULT of the latest island(), book() or sentence() (a book() of -1000 leaves it);", () -> {
            ShadowHeirs x = Due.made(Texts.PLACE);
            Due.island(x, "ground 1 1;");
            Due.same("island", x.fault(), 2);
            x.book(2);
            Due.same("-1000", x.fault(), 2);
            Due.book(x, "sea east;", 0);
            Due.same("book", x.fault(), 3);
            x.book(-1);
            Due.same("-1000", x.fault(), 3);
            Due.sentence(x, "rich");
            Due.same("sentence", x.fault(), 1);
            x.when();
            Due.same("when leaves it", x.fault(), 1);
            Due.sentence(x, "(".repeat(9));
            Due.same("sentence", x.fault(), 4);
            Due.book(x, "hour 1;", 1);
            Due.same("book", x.fault(), 0);
            x.image(0);
            Due.sentence(x, "of sea");
            x.restore(0);
            Due.same("told last, it stays", x.fault(), 3);
            x.undo();
            Due.same("it stays", x.fault(), 3);
        });
        says(5, "0 without one and ahead of any.", () -> {
            ShadowHeirs x = new ShadowHeirs();
            Due.same("ahead of any", x.fault(), 0);
            x.book(9);
            Due.same("ahead of any but one of -1000", x.fault(), 0);
            Due.island(x, ";");
            x.island();
            Due.same("an ISLAND without", x.fault(), 0);
            Due.island(x, ";");
            x.book(0);
            Due.same("a BOOK without", x.fault(), 0);
            Due.island(x, ";");
            Due.sentence(x, "poor");
            Due.same("a SENTENCE without", x.fault(), 0);
            Due.book(x, "tear 0 0;", 0);
            Due.same("a WRONG LINE is no FAULT", x.fault(), 0);
        });
    }

    /** Four HOUSES that all touch one cell, more than which can't be; the fifth stands aside. */
    private static final String SHADED = "ground 8 2;house d 3 0 3 0;house c 2 0 5 0;house e 0 1 1 0;house b 1 0 7 0;"
        + "house a 0 0 9 0;person p 4 0;person q 5 0;person r 6 0;person s 7 1;person t 4 0;person u 4 0;sun east 1;";

    private static void asked() {
        says(6, "Of a cell: 0 how high, 1 its HOUSE (NONE), 2 PERSONS who are there, as bits, 3 HOUSES whose SHADOWS touch "
            + "it now, as bits.", () -> {
            ShadowHeirs x = Due.made(SHADED);
            Due.same("0", x.cell(0, 0, 0), 9);
            Due.same("1: the first", x.cell(3, 0, 1), 0);
            Due.same("1: the last", x.cell(0, 0, 1), 4);
            Due.same("1: NONE", x.cell(4, 0, 1), -1);
            Due.same("2", x.cell(4, 0, 2), 1 | 16 | 32);
            Due.same("2: nobody", x.cell(7, 0, 2), 0);
            Due.same("2: all of them", Due.made(SIX_ON_ONE).cell(1, 0, 2), 63);
            int[] shades = {0, 16, 24, 26, 27, 27, 26, 24};
            for (int at = 0; at < 8; at++) {
                Due.same("3 at " + at, x.cell(at, 0, 3), shades[at]);
                Due.same("3 below " + at, x.cell(at, 1, 3), 0);
            }
            x.bury(4);
            Due.same("3: buried ones, too", x.cell(4, 0, 3), 27);
        });
        says(6, "NONE, too: no such ones.", () -> {
            for (int wide = 2; wide <= 8; wide++) {
                ShadowHeirs x = Due.made("ground " + wide + " " + (10 - wide) + ";");
                for (int what = 0; what < 4; what++) {
                    int none = what == 1 ? -1 : 0;
                    Due.same("the last cell", x.cell(wide - 1, 9 - wide, what), none);
                    Due.same("the first cell", x.cell(0, 0, what), none);
                    for (int n : new int[] {-1, LEAST, MOST, wide}) {
                        Due.same("X " + n, x.cell(n, 0, what), -1);
                    }
                    for (int n : new int[] {-1, LEAST, MOST, 10 - wide}) {
                        Due.same("Y " + n, x.cell(0, n, what), -1);
                    }
                }
                for (int what : new int[] {-1, 4, 5, LEAST, MOST}) {
                    Due.same("what " + what, x.cell(0, 0, what), -1);
                }
            }
        });
        says(7, "Of a HOUSE: 0 X, 1 Y, 2 how high, 3 GOODS, 4 buried (1, 0), 5 PERSONS whom its SHADOW touches now, as "
            + "bits.", () -> {
            ShadowHeirs x = Due.made("ground 8 7;house z 0 0 1 0;house a 7 6 9 99;person p 6 6;person q 7 5;person r 0 6;"
                + "sun west 1;sun north 1;");
            int[] want = {7, 6, 9, 99, 0, 5};
            for (int what = 0; what < 6; what++) {
                Due.same("what " + what, x.house(1, what), want[what]);
            }
            x.hours(1);
            Due.same("at the next hour", x.house(1, 5), 2);
            x.bury(1);
            Due.same("GOODS", x.house(1, 3), 0);
            Due.same("buried", x.house(1, 4), 1);
            Due.same("the other one is not", x.house(0, 4), 0);
            Due.same("its SHADOW, too", x.house(1, 5), 2);
            Due.same("all six", Due.made("house a 0 0 2 0;sun east 1;" + SIX_ON_ONE).house(0, 5), 63);
            for (int i = 0; i < 64; i++) {
                ShadowHeirs any = Due.made("ground 8 8;house a " + i % 8 + " " + i / 8 + " 1 1;");
                Due.same("X in any cell", any.house(0, 0), i % 8);
                Due.same("Y in any cell", any.house(0, 1), i / 8);
            }
        });
        says(7, "NoSuchElementException: no such ones.", () -> {
            ShadowHeirs x = Due.made(SHADED);
            for (int h : new int[] {-1, 5, 6, LEAST, MOST}) {
                Due.noSuch("HOUSE " + h, () -> x.house(h, 0));
            }
            for (int what : new int[] {-1, 6, 7, LEAST, MOST}) {
                Due.noSuch("what " + what, () -> x.house(0, what));
            }
            Due.same("the last one", x.house(4, 0), 0);
            ShadowHeirs one = Due.made("house a 1 1 1 1;");
            Due.noSuch("a second", () -> one.house(1, 0));
            Due.noSuch("none", () -> new ShadowHeirs().house(0, 0));
            ShadowHeirs less = Due.made(SHADED);
            Due.island(less, "house a 1 1 1 1;");
            Due.noSuch("one of the ISLAND before", () -> less.house(1, 0));
        });
        says(8, "Of a PERSON: 0 X, 1 Y, 2 wealth, 3 HOUSES whose SHADOWS touch him now (buried ones, too), 4 SIDES to which "
            + "he can GO, as bits each.", () -> {
            ShadowHeirs x = Due.made("ground 8 7;house a 0 6 9 99;person z 0 0;person p 7 6;sun east 1;sun west 1;");
            int[] want = {7, 6, 0, 1, 4 | 8};
            for (int what = 0; what < 5; what++) {
                Due.same("what " + what, x.person(1, what), want[what]);
            }
            x.bury(0);
            Due.same("wealth", x.person(1, 2), 99);
            Due.same("a buried one, too", x.person(1, 3), 1);
            x.hours(1);
            Due.same("not now", x.person(1, 3), 0);
            Due.same("east, south", x.person(0, 4), 1 | 2);
            Due.same("all SIDES", Due.made("person p 1 1;").person(0, 4), 15);
            Due.same("walled in", Due.made("person p 0 0;stones 1 0 1;house a 0 1 1 1;").person(0, 4), 0);
            Due.same("to others he can", Due.made("person p 0 0;person q 1 0;person r 0 1;").person(0, 4), 3);
            Due.same("four HOUSES", Due.made(SHADED).person(0, 3), 27);
            for (int i = 0; i < 64; i++) {
                ShadowHeirs any = Due.made("ground 8 8;person p " + i % 8 + " " + i / 8 + ";");
                Due.same("X in any cell", any.person(0, 0), i % 8);
                Due.same("Y in any cell", any.person(0, 1), i / 8);
                Due.same("SLIP in any cell", Due.slip(any, 0), "p at " + i % 8 + " " + i / 8 + " has 0");
            }
        });
        says(8, "NoSuchElementException: no such ones.", () -> {
            ShadowHeirs x = Due.made(SHADED);
            for (int p : new int[] {-1, 6, 7, LEAST, MOST}) {
                Due.noSuch("PERSON " + p, () -> x.person(p, 0));
            }
            for (int what : new int[] {-1, 5, 6, LEAST, MOST}) {
                Due.noSuch("what " + what, () -> x.person(0, what));
            }
            Due.same("the last one", x.person(5, 0), 4);
            Due.noSuch("none", () -> new ShadowHeirs().person(0, 0));
            ShadowHeirs one = Due.made("person p 1 1;");
            Due.noSuch("a second", () -> one.person(1, 0));
        });
        terms("A call that throws changes nothing.", () -> {
            ShadowHeirs x = Due.made(Texts.PLACE);
            Due.sentence(x, "of hall");
            x.lay(0, 3);
            x.slip(0);
            x.longest();
            x.spare(3, 0, 0);
            Due.book(x, "hour 1;", 0);
            Due.tape(x, "bury hall;");
            String before = Due.state(x);
            Due.noSuch("house", () -> x.house(2, 0));
            Due.noSuch("person", () -> x.person(4, 0));
            Due.noSuch("share", () -> x.share(0, 0, 2, 0));
            Due.noSuch("share", () -> x.share(0, 0, 0, 2));
            Due.same("all that is so", Due.state(x), before);
            Due.same("the SENTENCE", x.said(-1), 3);
            Due.same("the SLIP", x.byteAt(0), 'a');
            Due.same("LONGEST", x.longestAt(0), 0);
            Due.same("SPARE", x.spareAt(), 8 + 3);
            Due.same("told", x.told(2), 1);
            Due.same("the FAULT", x.fault(), 0);
            Due.same("the tape", x.book(0), -1);
            Due.same("one act", x.undo(), 0);
        });
        says(9, "0 the HOUR, 1 the hour of the table (NONE: none), 2 buried HOUSES, as bits, 3 all stones, 4 what PERSONS "
            + "have in all, 5 what the SEA has, 6 steps so far, 7 stones laid so far.", DocActs::nows);
        says(9, "NONE for another what.", () -> {
            ShadowHeirs x = Due.made(Texts.PLACE);
            for (int what : new int[] {-1, 8, 9, LEAST, MOST}) {
                Due.same("now " + what, x.now(what), -1);
            }
        });
    }

    private static void nows() {
        ShadowHeirs x = Due.made(SHADED.replace("sun east 1;", "stones 7 0 9;sun north 1;sun east 1;sun west 1;"));
        x.hours(4);
        Due.same("0", x.now(0), 4);
        Due.same("1", x.now(1), 1);
        Due.same("1: none", new ShadowHeirs().now(1), -1);
        Due.same("2: none", x.now(2), 0);
        x.bury(4);
        x.bury(0);
        Due.same("2", x.now(2), 17);
        x.bury(1);
        x.bury(2);
        x.bury(3);
        Due.same("2: all", x.now(2), 31);
        Due.same("3", x.now(3), 9);
        x.tear(7, 0);
        x.lay(1, 1);
        x.lay(1, 1);
        Due.same("3, HOUSES are no stones", x.now(3), 10);
        Due.same("7", x.now(7), 2);
        x.tear(1, 1);
        Due.same("7: what was laid stays told", x.now(7), 2);
        x.go(3, 2);
        x.go(3, 3);
        x.go(3, 3);
        Due.same("6: two, the third was not done", x.now(6), 2);
        ShadowHeirs rich = Due.made("house a 0 0 9 99;house b 0 1 9 50;house c 0 2 9 7;person p 1 0;person q 2 0;"
            + "person r 1 1;sun east 1;");
        rich.bury(0);
        Due.same("4", rich.now(4), 98);
        Due.same("5", rich.now(5), 1);
        rich.bury(1);
        Due.same("4", rich.now(4), 148);
        rich.bury(2);
        Due.same("5", rich.now(5), 8);
        StringBuilder all = new StringBuilder("ground 8 8;");
        for (int i = 0; i < 64; i++) {
            all.append("stones ").append(i % 8).append(' ').append(i / 8).append(" 9;");
        }
        Due.same("3: all that there can be", Due.made(all.toString()).now(3), 576);
        Due.same("7: none of them was laid", Due.made(all.toString()).now(7), 0);
        ShadowHeirs book = Due.made(Texts.PLACE);
        Due.book(book, "ann south;ann north;lay 4 0;tear 4 0;", 1);
        Due.same("6: by a BOOK, too", book.now(6), 2);
        Due.same("7: by a BOOK, too", book.now(7), 1);
    }

    private static void acts() {
        says(10, "A PERSON GOES to a SIDE (0 to 3): 0, or why not;", () -> {
            ShadowHeirs x = Due.made("ground 2 2;person p 0 0;");
            int[] sides = {0, 1, 2, 3};
            int[][] at = {{1, 0}, {1, 1}, {0, 1}, {0, 0}};
            for (int side : sides) {
                Due.same("side " + side, x.go(0, side), 0);
                Due.same("X", x.person(0, 0), at[side][0]);
                Due.same("Y", x.person(0, 1), at[side][1]);
            }
            Due.same("1", x.go(0, 3), 1);
            x.lay(1, 0);
            Due.same("2", x.go(0, 0), 2);
        });
        says(10, "NONE: no such ones.", () -> {
            ShadowHeirs x = Due.made("person p 2 2;person q 2 2;");
            changesNothing(x, () -> {
                for (int n : new int[] {-1, 2, 6, LEAST, MOST}) {
                    Due.same("PERSON " + n, x.go(n, 0), -1);
                }
                for (int n : new int[] {-1, 4, LEAST, MOST}) {
                    Due.same("SIDE " + n, x.go(0, n), -1);
                }
            });
            Due.same("nobody is there", new ShadowHeirs().go(0, 0), -1);
        });
        says(11, "A stone is LAID: 0, or why not;", () -> {
            ShadowHeirs x = Due.made("house a 0 0 1 1;person p 1 0;stones 2 0 9;");
            Due.same("0", x.lay(4, 4), 0);
            Due.same("laid", x.cell(4, 4, 0), 1);
            Due.same("1", x.lay(0, 0), 1);
            Due.same("2", x.lay(1, 0), 2);
            Due.same("3", x.lay(2, 0), 3);
            Due.same("one in all", x.now(7), 1);
        });
        says(12, "A stone is TORN off: 0, or why not;", () -> {
            ShadowHeirs x = Due.made("stones 4 4 2;");
            Due.same("0", x.tear(4, 4), 0);
            Due.same("0", x.tear(4, 4), 0);
            Due.same("1", x.tear(4, 4), 1);
            Due.same("1", x.tear(0, 0), 1);
            Due.same("all stones", x.now(3), 0);
        });
        for (int promise = 11; promise <= 12; promise++) {
            boolean isLay = promise == 11;
            says(promise, "NONE: no such cell.", () -> {
                for (int wide = 2; wide <= 8; wide++) {
                    int n = wide;
                    ShadowHeirs x = Due.made("ground " + n + " " + (10 - n) + ";");
                    changesNothing(x, () -> {
                        int[][] none = {{-1, 0}, {n, 0}, {LEAST, 0}, {MOST, 0}, {0, -1}, {0, 10 - n}, {0, LEAST}, {0, MOST}};
                        for (int[] at : none) {
                            Due.same(at[0] + " " + at[1], isLay ? x.lay(at[0], at[1]) : x.tear(at[0], at[1]), -1);
                        }
                    });
                    x.lay(n - 1, 9 - n);
                    Due.same("the last", isLay ? x.lay(n - 1, 9 - n) : x.tear(n - 1, 9 - n), 0);
                }
            });
        }
        says(13, "A HOUSE is BURIED: 0, or why not;", () -> {
            ShadowHeirs x = Due.made(SHADED);
            for (int h = 0; h < 5; h++) {
                Due.same("0", x.bury(h), 0);
                Due.same("1", x.bury(h), 1);
                Due.same("buried", x.house(h, 4), 1);
            }
        });
        says(13, "NONE: no such one.", () -> {
            ShadowHeirs x = Due.made("house a 0 0 1 1;house b 1 1 1 1;");
            changesNothing(x, () -> {
                for (int h : new int[] {-1, 2, 5, LEAST, MOST, 32, 64}) {
                    Due.same("HOUSE " + h, x.bury(h), -1);
                }
            });
            Due.same("there is none", new ShadowHeirs().bury(0), -1);
        });
        says(14, "n (1 to 60) HOURS go by: how many did;", () -> {
            for (int n : new int[] {1, 2, 59, 60}) {
                ShadowHeirs x = new ShadowHeirs();
                Due.same("hours", x.hours(n), n);
                Due.same("the HOUR", x.now(0), n);
            }
            for (int left = 0; left <= 60; left++) {
                ShadowHeirs x = at("", 400 - left);
                Due.same("as many as are left", x.hours(60), left);
                Due.same("all are over", x.now(0), 400);
            }
            ShadowHeirs x = at("", 390);
            Due.same("as many as there are", x.hours(10), 10);
            Due.same("no more", x.hours(10), 0);
        });
        says(14, "NONE: not as told.", () -> {
            for (int hour : new int[] {0, 400}) {
                ShadowHeirs x = at("", hour);
                for (int n : new int[] {0, -1, 61, LEAST, MOST}) {
                    Due.same("hours " + n, x.hours(n), -1);
                    Due.same("the HOUR", x.now(0), hour);
                }
            }
            ShadowHeirs y = new ShadowHeirs();
            y.hours(0);
            y.hours(61);
            Due.same("nothing to undo", y.undo(), -1);
        });
    }

    private interface Act {
        void on(ShadowHeirs x);
    }

    private static void undone() {
        says(15, "The latest of go(), lay(), tear(), bury() that was done, hours() above 0, drawn() above 0, a BOOK of which "
            + "some LINE was lived is undone:", DocActs::latestIsUndone);
        says(15, "how many more can be (8 at most are kept);", () -> {
            for (int n = 1; n <= 12; n++) {
                ShadowHeirs x = new ShadowHeirs();
                for (int i = 0; i < n; i++) {
                    x.hours(1);
                }
                int kept = Math.min(n, 8);
                for (int more = kept - 1; more >= 0; more--) {
                    Due.same("more", x.undo(), more);
                }
                Due.same("none is", x.undo(), -1);
                Due.same("what is not kept stays done", x.now(0), n - kept);
            }
            ShadowHeirs x = new ShadowHeirs();
            for (int round = 0; round < 5; round++) {
                for (int i = 0; i < 7; i++) {
                    x.hours(1);
                }
                for (int i = 0; i < 4; i++) {
                    x.undo();
                }
            }
            Due.same("3 each round", x.now(0), 15);
            for (int more = 3; more >= 0; more--) {
                Due.same("four of the eight were undone", x.undo(), more);
            }
            Due.same("none is", x.undo(), -1);
            Due.same("the HOUR", x.now(0), 11);
        });
        says(15, "NONE: none is.", () -> {
            ShadowHeirs x = Due.made(Texts.PLACE);
            String before = Due.state(x);
            Due.same("ahead of any", x.undo(), -1);
            x.lay(4, 0);
            Due.same("one", x.undo(), 0);
            Due.same("none", x.undo(), -1);
            Due.same("none", x.undo(), -1);
            Due.same("as it was", Due.state(x), before);
        });
    }

    private static void latestIsUndone() {
        Act[] done = {x -> x.go(0, 1), x -> x.lay(4, 0), x -> x.tear(3, 1), x -> x.bury(0), x -> x.hours(60),
            x -> x.drawn(9, 5), x -> Due.book(x, "ann south;lay 1 1;bury hut;hour 3;tear 4 0;hour 1;", 1)};
        Act[] notDone = {x -> x.go(0, 2), x -> x.go(9, 0), x -> x.lay(0, 1), x -> x.lay(9, 9), x -> x.tear(0, 0),
            x -> x.bury(2), x -> x.hours(0), x -> x.drawn(0, 1), x -> x.drawn(61, 1),
            x -> Due.book(x, "ann west;hour 1;", 1), x -> Due.book(x, "", 1), x -> Due.book(x, "hour 1;", 0),
            x -> Due.book(x, "hour 0;", 1), x -> x.book(2), x -> Due.sentence(x, "poor"), x -> Due.sentence(x, ""),
            x -> Due.island(x, ";"), x -> x.odds(0, 30, 1), x -> x.image(0), x -> x.restore(1), x -> x.slip(0),
            x -> x.spare(3, 0, 0), x -> x.longest(), x -> x.when(), x -> x.crowd(0, 0, 30)};
        for (Act act : done) {
            ShadowHeirs x = Due.made(Texts.PLACE);
            String before = Due.state(x);
            act.on(x);
            Due.no("it was done", Due.state(x).equals(before));
            Due.same("undone", x.undo(), 0);
            Due.same("as before", Due.state(x), before);
            Due.same("no more", x.undo(), -1);
        }
        for (Act act : notDone) {
            ShadowHeirs x = Due.made(Texts.PLACE);
            x.lay(0, 3);
            act.on(x);
            Due.same("the stone is undone", x.undo(), 0);
            Due.same("no stone", x.cell(0, 3, 0), 0);
        }
        ShadowHeirs over = at("ground 2 2;person p 0 0;house a 1 1 1 1;", 400);
        over.hours(1);
        over.drawn(60, 1);
        Due.same("hours() and drawn() of 0 are not kept: seven were", over.undo(), 6);
        Due.same("the HOUR", over.now(0), 360);
        ShadowHeirs again = Due.made(Texts.PLACE);
        again.bury(0);
        again.bury(0);
        Due.same("burying again is not kept", again.undo(), 0);
        Due.same("it is buried no more", again.now(2), 0);
    }
}
