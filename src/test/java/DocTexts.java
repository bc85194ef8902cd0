/** The document's sentences about texts: TOKENS, the ISLAND, the BOOK, the SENTENCE, their bounds and their FAULTS. */
final class DocTexts {
    private static final String[] KEPT = {"ground", "stones", "house", "person", "sun", "east", "south", "west", "north",
        "lay", "tear", "bury", "hour", "or", "and", "not", "shaded", "poor", "heir", "of", "wealth", "x", "y", "number"};
    private static final String FIVE_HOUSES =
        "house a 0 0 1 1;house b 1 0 1 1;house c 2 0 1 1;house d 3 0 1 1;house e 4 0 1 1;";
    private static final String SIX_PERSONS =
        "person p 0 1;person q 0 1;person r 0 1;person s 0 1;person t 0 1;person u 0 1;";
    private static final String EIGHT_SUNS = "sun east 1;".repeat(8);

    private DocTexts() {
    }

    private static void says(String words, Runnable test) {
        Doc.says("Terms", words, test);
    }

    static void all() {
        tokens();
        islandLines();
        islandBounds();
        bookLines();
        sentenceParts();
        sentenceMeanings();
        faults();
    }

    private static boolean isLetter(int c) {
        return c >= 'a' && c <= 'z';
    }

    private static boolean isDigit(int c) {
        return c >= '0' && c <= '9';
    }

    private static void tokens() {
        says("TOKENS of all texts, with blanks (32, 10) between them or not:", () -> {
            for (int c = 0; c < 256; c++) {
                String text = "ground 3" + (char) c + "3;";
                if (c == 32 || c == 10) {
                    Texts.island(text, 1);
                } else if (isDigit(c)) {
                    Texts.islandFault(text, 2, 7);
                } else {
                    Texts.islandFault(text, 1, isLetter(c) ? 7 : 8);
                }
            }
            Texts.island("\n  ground \n\n 3\n3 \n; \n", 1);
            Texts.sentence("not(x<1)or(y>2)and(number=3)", 7);
            Texts.sentence(" not ( x < 1\n) or\n( y > 2 ) and ( number = 3 )\n", 7);
            Texts.book("ann south;hour 1;lay 4 0;", 3);
            Texts.book(" ann\nsouth ; hour\n1 ; lay\n4\n0 ;\n", 3);
        });
        says("WORDS: small letters, 1 to 7;", () -> {
            String seven = "abcdefg";
            for (int n = 1; n <= 7; n++) {
                Texts.island("person " + seven.substring(0, n) + " 0 0;", 1);
                Texts.island("person " + "z".repeat(n) + " 0 0;", 1);
            }
            Texts.islandFault("person @abcdefgh 0 0;", 1);
            Texts.islandFault("person @" + "z".repeat(60) + " 0 0;", 1);
            for (char c : new char[] {'A', 'Z', '`', '{', '[', 224, 255, 0}) {
                Texts.islandFault("person " + c + " 0 0;", 1, 7);
                Texts.islandFault("person b" + c + " 0 0;", 1, 8);
            }
            for (char c = 'a'; c <= 'z'; c++) {
                if (c != 'x' && c != 'y') {
                    Texts.island("person " + c + " 0 0;", 1);
                }
            }
        });
        says("NUMBERS: 1 to 3 digits;", () -> {
            Texts.island("stones 0 00 001;", 1);
            Texts.island("house a 004 04 09 099;", 1);
            Texts.islandFault("stones 0 0 @0001;", 1);
            Texts.islandFault("stones @0000 0 1;", 1);
            Texts.islandFault("stones 0 0 @1000;", 1);
            Texts.islandFault("stones 0 0 @4294967297;", 1);
            Texts.islandFault("stones 0 0 @999;", 2);
            Texts.islandFault("stones 0 0 @-1;", 1);
            Texts.sentence("wealth < 0", 1);
            Texts.sentence("wealth < 999", 1);
            Texts.sentenceFault("wealth < @1000", 1);
            Texts.bookFault("hour @0060;", 1);
            for (char c = '0'; c <= '9'; c++) {
                Texts.sentence("x = " + c, 1);
            }
            Texts.sentenceFault("x = @/", 1);
            Texts.sentenceFault("x = @:", 1);
        });
        says("; < = > ( ) .", () -> {
            for (int c = 33; c < 256; c++) {
                if (!isLetter(c) && !isDigit(c)) {
                    boolean isSign = c == '<' || c == '=' || c == '>';
                    String text = "number" + (char) c + "1";
                    if (isSign) {
                        Texts.sentence(text, 1);
                    } else {
                        Texts.sentenceFault(text, 1, 6);
                    }
                    if (c != '(') {
                        Texts.sentenceFault((char) c + "poor)", 1, 0);
                    }
                    if (c != ')') {
                        Texts.sentenceFault("(poor" + (char) c, 1, 5);
                    }
                    if (c != ';') {
                        Texts.islandFault("ground 3 3" + (char) c, 1, 10);
                    }
                }
            }
            Texts.sentence("(poor)", 2);
        });
        says("(A WORD, NUMBER goes on as long as small letters and digits do; what is not as told is no TOKEN.)", () -> {
            Texts.islandFault("@ground3 3;", 1);
            Texts.islandFault("ground @3a 3;", 1);
            Texts.islandFault("ground @3east 3;", 1);
            Texts.islandFault("person @a1 0 0;", 1);
            Texts.islandFault("person @1a 0 0;", 1);
            Texts.islandFault("person @abcdefg1 0 0;", 1);
            Texts.islandFault("ground @33 3;", 2);
            Texts.sentenceFault("@x1", 1);
            Texts.sentenceFault("x=@1or y=1", 1);
            Texts.sentenceFault("@notpoor", 1);
            Texts.bookFault("@lay0 0;", 1);
            Texts.bookFault("hour @1h;", 1);
        });
    }

    private static void islandLines() {
        says("An ISLAND is a text of at most 900 bytes: { LINE ; }.", () -> {
            Texts.island("", 0);
            Texts.island(" ", 0);
            Texts.island("sun east 1;", 1);
            Texts.island("sun east 1;sun west 2;", 2);
            Texts.islandFault("@;", 1);
            Texts.islandFault("sun east 1;@;", 1);
            Texts.islandFault("sun east 1@", 1);
            Texts.islandFault("sun east 1 @sun west 2;", 1);
            Texts.island("sun east 1;" + Texts.blanks(888), 1);
            Texts.island("sun east 1;" + Texts.blanks(889), 1);
            Texts.islandFault("sun east 1;" + Texts.blanks(890), 1, 900);
            Texts.island(Texts.blanks(900), 0);
            Texts.islandFault(Texts.blanks(901), 1, 900);
            Texts.island(Texts.blanks(889) + "sun east 1;", 1);
            Texts.islandFault(Texts.blanks(890) + "sun east 1;", 1, 900);
            StringBuilder many = new StringBuilder("ground 8 8;");
            for (int i = 0; i < 64; i++) {
                many.append("stones ").append(i % 8).append(' ').append(i / 8).append(" 9;");
            }
            Texts.island(many.toString(), 65);
        });
        says("LINE: 'ground' WIDE HIGH (2 to 8 each; once, ahead of all with X, Y; 5 by 5 without)", () -> {
            for (int n = 2; n <= 8; n++) {
                ShadowHeirs x = Due.made("ground " + n + " " + (10 - n) + ";");
                Due.same("WIDE", x.count(0), n);
                Due.same("HIGH", x.count(1), 10 - n);
            }
            Texts.islandFault("ground @0 5;", 2);
            Texts.islandFault("ground @1 5;", 2);
            Texts.islandFault("ground @9 5;", 2);
            Texts.islandFault("ground 5 @0;", 2);
            Texts.islandFault("ground 5 @1;", 2);
            Texts.islandFault("ground 5 @9;", 2);
            Texts.islandFault("ground 5 5;@ground 5 5;", 3);
            Texts.island("sun east 1;ground 2 2;", 2);
            Texts.islandFault("stones 0 0 1;@ground 8 8;", 3);
            Texts.islandFault("house a 0 0 1 1;@ground 8 8;", 3);
            Texts.islandFault("person a 0 0;@ground 8 8;", 3);
            ShadowHeirs x = Due.made("ground 8 7;");
            Due.island(x, "sun east 1;");
            Due.same("WIDE without", x.count(0), 5);
            Due.same("HIGH without", x.count(1), 5);
        });
        says("'stones' X Y N (1 to 9; each cell once)", () -> {
            for (int n = 1; n <= 9; n++) {
                ShadowHeirs x = Due.made("stones 4 3 " + n + ";");
                Due.same("how high", x.cell(4, 3, 0), n);
                Due.same("nowhere else", x.now(3), n);
            }
            Texts.islandFault("stones 4 3 @0;", 2);
            Texts.islandFault("stones 4 3 @10;", 2);
            Texts.islandFault("stones 4 3 1;stones 4 @3 1;", 3);
            Texts.islandFault("stones 4 3 9;stones 3 3 1;stones 4 @3 9;", 3);
            Texts.island("stones 4 3 1;stones 3 4 1;stones 4 4 1;stones 3 3 1;", 4);
        });
        says("'house' NAME X Y N GOODS (1 to 9 high; 0 to 99)", () -> {
            for (int n = 1; n <= 9; n++) {
                Due.same("how high", Due.made("house a 4 3 " + n + " 5;").house(0, 2), n);
            }
            for (int n = 0; n <= 99; n++) {
                Due.same("GOODS", Due.made("house a 4 3 2 " + n + ";").house(0, 3), n);
            }
            Due.same("X", Due.made("house a 4 3 2 1;").house(0, 0), 4);
            Due.same("Y", Due.made("house a 4 3 2 1;").house(0, 1), 3);
            Texts.islandFault("house a 4 3 @0 5;", 2);
            Texts.islandFault("house a 4 3 @10 5;", 2);
            Texts.islandFault("house a 4 3 1 @100;", 2);
            Texts.islandFault("house a 4 3 1@;", 1);
        });
        says("'person' NAME X Y", () -> {
            Due.same("X", Due.made("person a 4 3;").person(0, 0), 4);
            Due.same("Y", Due.made("person a 4 3;").person(0, 1), 3);
            Texts.islandFault("person a 4@;", 1);
            Texts.islandFault("person a 4 3 @1;", 1);
        });
        says("'sun' SIDE DROP (the next hour of the table: to which side shadows fall; 1 to 9).", () -> {
            for (int n = 1; n <= 9; n++) {
                ShadowHeirs x = Due.made("ground 8 2;house a 0 0 9 0;sun east 9;sun east " + n + ";");
                Due.same("cells by DROP " + n, x.shadow(0, 1), Math.min(7, 8 / n));
                Due.same("hours", x.count(4), 2);
            }
            Texts.islandFault("sun east @0;", 2);
            Texts.islandFault("sun east @10;", 2);
            Texts.islandFault("sun @1 1;", 1);
        });
    }

    private static void islandBounds() {
        says("SIDE: 'east', 'south', 'west', 'north', numbered from 0.", () -> {
            ShadowHeirs x = Due.made("house a 2 2 2 0;person b 1 1;sun east 1;sun south 1;sun west 1;sun north 1;");
            int[][] shade = {{3, 2}, {2, 3}, {1, 2}, {2, 1}};
            int[][] gone = {{2, 1}, {1, 2}, {0, 1}, {1, 0}};
            int[] back = {2, 3, 0, 1};
            for (int side = 0; side < 4; side++) {
                Due.same("the shadow of side " + side, x.cell(shade[side][0], shade[side][1], 3), 1);
                x.hours(1);
                x.go(0, side);
                Due.same("gone to side " + side, x.cell(gone[side][0], gone[side][1], 2), 1);
                x.go(0, back[side]);
            }
            Texts.islandFault("sun @up 1;", 1);
            Texts.islandFault("sun @sun 1;", 1);
            Texts.islandFault("sun @lay 1;", 1);
        });
        says("X 0 to WIDE less 1, Y 0 to HIGH less 1.", () -> {
            for (int n = 2; n <= 8; n++) {
                String ground = "ground " + n + " " + (10 - n) + ";";
                for (String line : new String[] {"stones ", "house a ", "person a "}) {
                    String rest = line.equals("stones ") ? " 1;" : line.equals("house a ") ? " 1 1;" : ";";
                    Texts.island(ground + line + "0 0" + rest, 2);
                    Texts.island(ground + line + (n - 1) + " " + (9 - n) + rest, 2);
                    Texts.islandFault(ground + line + "@" + n + " 0" + rest, 2);
                    Texts.islandFault(ground + line + "0 @" + (10 - n) + rest, 2);
                }
            }
            Texts.island("person a 4 4;", 1);
            Texts.islandFault("person a @5 4;", 2);
            Texts.islandFault("person a 4 @5;", 2);
        });
        says("In a cell there are stones, or a HOUSE, or PERSONS (some), one of these alone.", () -> {
            String[] first = {"stones 1 2 3;", "house a 1 2 3 4;", "person a 1 2;"};
            String[] then = {"stones 1 @2 3;", "house b 1 @2 3 4;", "person b 1 @2;"};
            for (int i = 0; i < 3; i++) {
                for (int j = 0; j < 3; j++) {
                    if (i < 2 || j < 2) {
                        Texts.islandFault(first[i] + then[j], 3);
                    }
                }
            }
            Due.same("all six", Due.made(SIX_PERSONS).cell(0, 1, 2), 63);
        });
        says("NAME: a WORD, none of those told here, in a BOOK or a SENTENCE; told once.", () -> {
            for (String word : KEPT) {
                Texts.islandFault("house @" + word + " 0 0 1 1;", 1);
                Texts.islandFault("person @" + word + " 0 0;", 1);
                if (word.length() < 7) {
                    Texts.island("house " + word + "z 0 0 1 1;person z" + word + " 1 1;", 2);
                }
                if (word.length() > 2) {
                    Texts.island("person " + word.substring(1) + " 0 0;", 1);
                }
            }
            Texts.islandFault("house a 0 0 1 1;house @a 1 1 1 1;", 3);
            Texts.islandFault("house a 0 0 1 1;person @a 1 1;", 3);
            Texts.islandFault("person a 0 0;house @a 1 1 1 1;", 3);
            Texts.islandFault("person a 0 0;person @a 1 1;", 3);
            Texts.islandFault(SIX_PERSONS + "house @u 1 1 1 1;", 3);
            Texts.islandFault(FIVE_HOUSES + "person @e 1 1;", 3);
            Texts.island("person a 0 0;person aa 0 0;person ab 0 0;person b 0 0;", 4);
            // the WORDS of a SLIP are none of those
            Texts.island("person at 0 0;house has 1 1 1 1;", 2);
            Texts.islandFault("person @1 0 0;", 1);
            Texts.islandFault("person @; 0 0;", 1);
        });
        says("5 HOUSES, 6 PERSONS, 8 hours of the table at most, numbered from 0 each.", () -> {
            ShadowHeirs x = Due.made(FIVE_HOUSES + SIX_PERSONS + EIGHT_SUNS);
            Due.same("HOUSES", x.count(2), 5);
            Due.same("PERSONS", x.count(3), 6);
            Due.same("hours", x.count(4), 8);
            for (int h = 0; h < 5; h++) {
                Due.same("HOUSE " + h, x.cell(h, 0, 1), h);
            }
            Due.same("the last PERSON", Due.slip(x, 5), "u at 0 1 has 0");
            Texts.islandFault(FIVE_HOUSES + "@house f 0 1 1 1;", 4);
            Texts.islandFault(SIX_PERSONS + "@person v 0 1;", 4);
            Texts.islandFault(EIGHT_SUNS + "@sun east 1;", 4);
            Due.same("none", new ShadowHeirs().count(2), 0);
        });
    }

    private static void bookLines() {
        says("A BOOK is a text of at most 400 bytes: { LINE ; }, 40 at most:", () -> {
            Texts.book("", 0);
            Texts.book("hour 1;", 1);
            Texts.book("hour 1;" + Texts.blanks(392), 1);
            Texts.book("hour 1;" + Texts.blanks(393), 1);
            Texts.bookFault("hour 1;" + Texts.blanks(394), 1, 400);
            Texts.book(Texts.blanks(400), 0);
            Texts.bookFault(Texts.blanks(401), 1, 400);
            Texts.book("hour 1;".repeat(39), 39);
            Texts.book("hour 1;".repeat(40), 40);
            Texts.bookFault("hour 1;".repeat(40) + "@hour 1;", 4);
            Texts.bookFault("@;", 1);
            Texts.bookFault("hour 1@", 1);
        });
        says("PERSON SIDE (he goes)", () -> {
            ShadowHeirs x = Due.made(Texts.PLACE);
            Due.same("book", Due.book(x, "ann south;bob north;cid west;dot west;", 1), -1);
            int[][] at = {{1, 2}, {2, 0}, {1, 0}, {4, 1}};
            for (int p = 0; p < 4; p++) {
                Due.same("X", x.person(p, 0), at[p][0]);
                Due.same("Y", x.person(p, 1), at[p][1]);
            }
            Due.same("east", Due.book(x, "dot east;", 1), -1);
            Due.same("X", x.person(3, 0), 5);
            Due.same("steps", x.now(6), 5);
            Texts.bookFault("ann@;", 1);
            Texts.bookFault("ann @0;", 1);
            Texts.bookFault("ann @hall;", 1);
            Texts.bookFault("ann @hour;", 1);
        });
        says("'lay' X Y | 'tear' X Y (0 to 7 each)", () -> {
            for (String word : new String[] {"lay ", "tear "}) {
                Texts.bookFault(word + "@8 0;", 2);
                Texts.bookFault(word + "0 @8;", 2);
                Texts.bookFault(word + "7 @8;", 2);
                Texts.bookFault(word + "@999 0;", 2);
                Texts.bookFault(word + "0@;", 1);
                Texts.bookFault(word + "@ann 0;", 1);
                ShadowHeirs x = Due.made(Texts.PLACE);
                Due.same("7 is as told, if there is a cell or not", Due.book(x, word + "7 7;", 0), 0);
                Due.same("no such cell", x.told(0), word.equals("lay ") ? 19 : 29);
                Due.same("0 is as told", Due.book(x, word + "0 0;", 0), word.equals("lay ") ? -1 : 0);
            }
            ShadowHeirs wide = Due.made("ground 8 8;");
            Due.same("7 7 on the widest ground", Due.book(wide, "lay 7 7;lay 7 7;tear 7 7;", 1), -1);
            Due.same("laid", wide.cell(7, 7, 0), 1);
        });
        says("'bury' HOUSE", () -> {
            ShadowHeirs x = Due.made(Texts.PLACE);
            Due.same("book", Due.book(x, "bury hut;", 1), -1);
            Due.same("buried", x.now(2), 2);
            Due.same("no HOUR goes", x.now(0), 0);
            Due.same("book", Due.book(x, "bury hall;", 1), -1);
            Due.same("both", x.now(2), 3);
            Texts.bookFault("bury@;", 1);
            Texts.bookFault("bury @0;", 1);
            Texts.bookFault("bury @ann;", 3);
            Texts.bookFault("bury @sea;", 3);
            Texts.bookFault("bury @sun;", 1);
        });
        says("'hour' N (1 to 60).", () -> {
            for (int n : new int[] {1, 2, 59, 60}) {
                ShadowHeirs x = Due.made(Texts.PLACE);
                Due.same("book", Due.book(x, "hour " + n + ";", 1), -1);
                Due.same("the HOUR", x.now(0), n);
            }
            Texts.bookFault("hour @0;", 2);
            Texts.bookFault("hour @61;", 2);
            Texts.bookFault("hour@;", 1);
            Texts.bookFault("hour @ann;", 1);
        });
    }

    private static void sentenceParts() {
        says("A SENTENCE is a text of at most 200 bytes: COND: ALL { 'or' ALL }. ALL: ONE { 'and' ONE }.", () -> {
            Texts.sentence("poor" + Texts.blanks(195), 1);
            Texts.sentence("poor" + Texts.blanks(196), 1);
            Texts.sentenceFault("poor" + Texts.blanks(197), 1, 200);
            Texts.sentenceFault("@", 1);
            Texts.sentenceFault(Texts.blanks(200), 1, 200);
            Texts.sentenceFault(Texts.blanks(199), 1, 199);
            Texts.sentence("poor or heir", 2);
            Texts.sentence("poor and heir", 2);
            Texts.sentence("poor or heir and shaded or of hut", 4);
            Texts.sentenceFault("poor or@", 1);
            Texts.sentenceFault("poor and@", 1);
            Texts.sentenceFault("@or poor", 1);
            Texts.sentenceFault("@and poor", 1);
            Texts.sentenceFault("poor @heir", 1);
            Texts.sentenceFault("poor or @or heir", 1);
            Texts.sentenceFault("poor and @or heir", 1);
            Texts.sentenceFault("poor@;", 1);
            ShadowHeirs x = Due.made(Texts.PLACE);
            Texts.said(x, "number = 0 or number = 1 and x = 0", 1);
            Texts.said(x, "x = 0 and number = 1 or number = 0", 1);
            Texts.said(x, "number = 0 or number = 2 or number = 3", 13);
            Texts.said(x, "number < 3 and number > 0 and y = 1", 2);
        });
        says("ONE: 'not' ONE | ( COND ) |", () -> {
            ShadowHeirs x = Due.made(Texts.PLACE);
            Texts.said(x, "not number = 0 and number < 2", 2);
            Texts.said(x, "not (number = 0 and number < 2)", 14);
            Texts.said(x, "not not number = 0", 1);
            Texts.said(x, "(number = 0 or number = 1) and x = 2", 2);
            Texts.said(x, "((number = 3))", 8);
            Texts.sentenceFault("not@", 1);
            Texts.sentenceFault("not @or", 1);
            Texts.sentenceFault("poor @not poor", 1);
            Texts.sentenceFault("(@)", 1);
            Texts.sentenceFault("(poor@", 1);
            Texts.sentenceFault("(poor @heir)", 1);
            Texts.sentenceFault("poor@)", 1);
            Texts.sentenceFault("(poor)@)", 1);
            Texts.sentenceFault("poor @(poor)", 1);
        });
        says("20 ONES, 8 within one another.", () -> {
            for (String joint : new String[] {" or ", " and "}) {
                String nineteen = "poor" + (joint + "poor").repeat(18);
                Texts.sentence(nineteen, 19);
                Texts.sentence(nineteen + joint + "poor", 20);
                Texts.sentenceFault(nineteen + joint + "poor" + joint + "@poor", 4);
            }
            for (int n = 1; n <= 7; n++) {
                Texts.sentence("not ".repeat(n) + "poor", n + 1);
                Texts.sentence("(".repeat(n) + "poor" + ")".repeat(n), n + 1);
            }
            Texts.sentenceFault("not ".repeat(8) + "@poor", 4);
            Texts.sentenceFault("(".repeat(8) + "@poor" + ")".repeat(8), 4);
            Texts.sentenceFault("not(not(not(not(@poor))))", 4);
            Texts.sentence("(((((((poor and heir)))))))", 9);
            Texts.sentence("(((((((poor))))))) and (((((((poor)))))))", 16);
            Texts.sentence("not not not(poor)or not not not not(poor)and not not not not heir", 16);
            Texts.sentence("not(poor)and(poor)".repeat(1) + " or not(poor)and(poor)".repeat(3), 20);
            Texts.sentenceFault("not(poor)and(poor)" + " or not(poor)and(poor)".repeat(3) + " or @not poor", 4);
            ShadowHeirs x = Due.made(Texts.PLACE);
            Texts.said(x, "x=9 or ".repeat(19) + "x=5", 8);
            Texts.said(x, "x=5" + " or x=9".repeat(19), 8);
            Texts.said(x, "x>0 and ".repeat(19) + "x>1", 14);
            Texts.said(x, "x>1" + " and x>0".repeat(19), 14);
            Texts.said(x, "x=9 or y=0 and ".repeat(9) + "x=2 or x=5", 12);
            Texts.said(x, "not ".repeat(7) + "x=5", 7);
            Texts.said(x, "x=1 or (x=9 or (x=9 or (x=9 or (x=9 or (x=9 or (x=9 or (x=5)))))))", 9);
            Texts.said(x, "x>0 and (x>0 and (x>0 and (x>0 and (x>0 and (x>0 and (x>0 and x=2))))))", 6);
            Texts.said(x, "y=9 or y>0 and (y=9 or y>0 and (y=9 or y>0 and (y=9 or y>0 and (y=9 or y>0 and (y=1)))))", 11);
        });
        says("It is said of PERSONS.", () -> {
            ShadowHeirs none = Due.made("house a 0 0 1 1;sun east 1;");
            Texts.said(none, "poor or not poor", 0);
            ShadowHeirs six = Due.made(SIX_PERSONS);
            Texts.said(six, "poor or not poor", 63);
            Texts.said(six, "poor and not poor", 0);
        });
    }

    private static void sentenceMeanings() {
        says("'shaded' (the shadow of some HOUSE that is not buried touches him now)", () -> {
            ShadowHeirs x = Due.made("house a 0 0 9 8;house b 1 0 2 0;person p 2 0;person q 3 0;person r 0 1;sun east 1;"
                + "sun south 1;");
            Texts.said(x, "shaded", 3);
            x.bury(0);
            Due.same("b is left, it touches p", x.said(-1), 1);
            x.bury(1);
            Due.same("all are buried", x.said(-1), 0);
            x.undo();
            x.undo();
            x.hours(1);
            Due.same("only r at the next hour", x.said(-1), 1);
            Due.same("r", x.said(0), 2);
            Texts.said(Due.made("house a 0 0 9 8;person p 1 0;"), "shaded", 0);
        });
        says("'poor' (he has nothing)", () -> {
            ShadowHeirs x = Due.made("house a 0 0 9 1;person p 1 0;person q 1 1;sun east 1;");
            Texts.said(x, "poor", 3);
            x.bury(0);
            Due.same("p has 1", x.person(0, 2), 1);
            Texts.said(x, "poor", 2);
        });
        says("'heir' (he got something by a burial, ever)", () -> {
            ShadowHeirs x = Due.made("house a 0 0 9 1;house b 0 4 9 1;house c 0 2 9 0;person p 1 0;person q 1 4;"
                + "person r 1 4;person s 1 2;sun east 1;");
            Texts.said(x, "heir", 0);
            x.bury(0);
            x.bury(1);
            x.bury(2);
            Texts.said(x, "heir", 1);
            x.go(0, 1);
            x.hours(60);
            Due.same("ever", x.said(0), 0);
        });
        says("'of' HOUSE (its shadow touches him now)", () -> {
            ShadowHeirs x = Due.made(Texts.PLACE);
            Texts.said(x, "of hall", 11);
            x.bury(0);
            Due.same("if it is buried, too", x.said(-1), 3);
            Texts.said(x, "of hut", 0);
            x.hours(1);
            Due.same("at the next hour", x.said(0), 3);
            Texts.sentenceFault("of@", 1);
            Texts.sentenceFault("of @ann", 3);
            Texts.sentenceFault("of @sea", 3);
            Texts.sentenceFault("of @of", 1);
            Texts.sentenceFault("of @1", 1);
        });
        says("( 'wealth' | 'x' | 'y' | 'number' ) SIGN NUMBER. SIGN: < = >.", () -> {
            ShadowHeirs x = Due.made(Texts.PLACE);
            x.bury(0);
            int[][] all = {{10, 10, 0, 10}, {1, 2, 2, 5}, {1, 1, 0, 1}, {0, 1, 2, 3}};
            String[] words = {"wealth", "x", "y", "number"};
            for (int w = 0; w < 4; w++) {
                for (int n : all[w]) {
                    for (int at = Math.max(0, n - 1); at <= n + 1; at++) {
                        int[] bits = new int[3];
                        for (int p = 0; p < 4; p++) {
                            bits[Integer.compare(all[w][p], at) + 1] |= 1 << p;
                        }
                        ShadowHeirs y = Due.made(Texts.PLACE);
                        y.bury(0);
                        Texts.said(y, words[w] + " < " + at, bits[0]);
                        Texts.said(y, words[w] + " = " + at, bits[1]);
                        Texts.said(y, words[w] + " > " + at, bits[2]);
                    }
                }
                Texts.sentenceFault(words[w] + "@", 1);
                Texts.sentenceFault(words[w] + " @1", 1);
                Texts.sentenceFault(words[w] + " <@", 1);
                Texts.sentenceFault(words[w] + " <@> 1", 1);
                Texts.sentenceFault(words[w] + " <@= 1", 1);
                Texts.sentenceFault(words[w] + " < @x", 1);
                Texts.sentenceFault(words[w] + " @; 1", 1);
                Texts.sentenceFault(words[w] + " @( 1", 1);
                Texts.sentence(words[w] + " = 0", 1);
                Texts.sentence(words[w] + " = 999", 1);
            }
            for (int i = 0; i < 64; i++) {
                ShadowHeirs any = Due.made("ground 8 8;person p " + i % 8 + " " + i / 8 + ";");
                Texts.said(any, "x = " + i % 8 + " and y = " + i / 8, 1);
            }
            Texts.sentenceFault("@ann = 1", 1);
            Texts.sentenceFault("@1 = x", 1);
        });
    }

    private static void faults() {
        says("FAULTS, the first along the text, of one TOKEN the least:", () -> {
            Texts.islandFault("ground @1 1;ground 3 3;.", 2);
            Texts.islandFault("sun @up 0;sun east 0;", 1);
            Texts.islandFault("stones 1 1 1;person a 1 @1;ground 9 9;", 3);
            Texts.islandFault("person a 0 0;person @a 9 9", 3);
            Texts.islandFault(FIVE_HOUSES + "@house a 0 0 0 100;", 4);
            Texts.islandFault("stones 1 1 1;stones 1 @5 1;", 2);
            // the 41st LINE begins with a NAME that is not told, or with what can't come: these are less than 4
            String forty = "hour 1;".repeat(40);
            Texts.bookFault(forty + "@sea east;", 3);
            Texts.bookFault(forty + "@hall east;", 3);
            Texts.bookFault(forty + "@sun;", 1);
            Texts.bookFault(forty + "@1", 1);
            Texts.bookFault(forty + "@;", 1);
            Texts.bookFault(forty + "@ann up;", 4);
            Texts.bookFault("hour @0;sea east;.", 2);
            String twenty = "poor" + " or poor".repeat(19);
            Texts.sentenceFault(twenty + " or @hall", 1);
            Texts.sentenceFault(twenty + " or@", 1);
            Texts.sentenceFault(twenty + " or @of sea", 4);
            Texts.sentenceFault(twenty + " @poor", 1);
            Texts.sentenceFault("(".repeat(8) + "@)", 1);
            Texts.sentenceFault("(".repeat(8) + "@of sea", 4);
            Texts.sentenceFault("of @sea and .", 3);
        });
        says("1 no TOKEN, or one that can't come (at it;", () -> {
            Texts.islandFault("sun east 1;  @. sun east 0;", 1);
            Texts.islandFault("sun\n\n@1", 1);
            Texts.bookFault("ann east  @east;", 1);
            Texts.sentenceFault("poor  @wealth", 1);
            Texts.islandFault("@lay 1 1;", 1);
            Texts.islandFault("@ann 1 1;", 1);
            Texts.bookFault("@stones 1 1 1;", 1);
            Texts.bookFault("@east;", 1);
            Texts.bookFault("@poor;", 1);
            Texts.sentenceFault("@ann", 1);
            Texts.sentenceFault("@bury hall", 1);
        });
        says("the end: how many bytes there are;", () -> {
            String line = "house a 0 0 1 1;";
            for (int n = 1; n < line.length(); n++) {
                String cut = line.substring(0, n);
                if (cut.endsWith(" ") || line.charAt(n) == ' ' || line.charAt(n) == ';') {
                    Texts.islandFault(cut, 1, n);
                    Texts.islandFault(cut + " \n ", 1, n + 3);
                }
            }
            Texts.bookFault("lay 4 0@", 1);
            Texts.bookFault("lay 4 0  \n@", 1);
            Texts.sentenceFault("x <  @", 1);
            Texts.sentenceFault("not (poor \n@", 1);
        });
        says("the most bytes told, if there are more and no FAULT is ahead: TOKENS that begin ahead of it are read whole);",
            DocTexts::mostBytes);
        says("2 a NUMBER that is not as told (at it);", () -> {
            Texts.islandFault("ground @1 3;", 2);
            Texts.islandFault("ground  3  @9;", 2);
            Texts.islandFault("house a 0 0 1 @999;", 2);
            Texts.bookFault("lay 0  @9;", 2);
            Texts.bookFault("hour @999;", 2);
            // no NUMBER in a SENTENCE can be not as told: any is
            Texts.sentence("number = 000 or wealth > 999", 2);
        });
        says("3 a NAME told twice, not told, or of another sort,", () -> {
            Texts.islandFault("person a 0 0;person @a 0 0;", 3);
            Texts.bookFault("@a east;", 3);
            Texts.bookFault("@hall east;", 3);
            Texts.bookFault("bury @a;", 3);
            Texts.bookFault("bury @dot;", 3);
            Texts.sentenceFault("poor or of @a", 3);
            Texts.sentenceFault("poor or of @dot", 3);
            ShadowHeirs x = new ShadowHeirs();
            Due.same("on a bare ISLAND none is told", Due.book(x, "ann east;", 0), -2);
            Due.same("FAULT", x.fault(), 3);
            Due.same("nor a HOUSE", Due.sentence(x, "of hall"), -1 - 3);
            Due.same("FAULT", x.fault(), 3);
        });
        says("a cell in which there is something that must not be with that (at its Y),", () -> {
            Texts.islandFault("stones 3 1 1;house a  3  @1 0 0;", 3);
            Texts.islandFault("house a 3 1 1 1;person b 3\n@1", 3);
            Texts.islandFault("person b 3 1;stones 3 @1", 3);
        });
        says("'ground' told again or behind a LINE with X, Y (at the WORD);", () -> {
            Texts.islandFault("ground 3 3; @ground", 3);
            Texts.islandFault("ground 3 3;sun east 1;@ground 1 1;", 3);
            Texts.islandFault("sun east 1;person a 0 0; @ground;", 3);
            Texts.islandFault("stones 0 0 1;sun east 1;@ground 3 3;", 3);
        });
        says("4 one more than there may be of a sort, a 41st LINE of a BOOK (at the LINE's first WORD),", () -> {
            Texts.islandFault(FIVE_HOUSES + SIX_PERSONS + EIGHT_SUNS + " @house", 4);
            Texts.islandFault(FIVE_HOUSES + SIX_PERSONS + EIGHT_SUNS + " @person", 4);
            Texts.islandFault(FIVE_HOUSES + SIX_PERSONS + EIGHT_SUNS + " @sun", 4);
            Texts.island(FIVE_HOUSES + SIX_PERSONS + EIGHT_SUNS + "stones 4 4 1;", 20);
            for (String line : new String[] {"ann", "lay", "tear", "bury", "hour"}) {
                Texts.bookFault("hour 1;".repeat(40) + " @" + line, 4);
            }
        });
        says("a 21st ONE, a ninth within (at its first TOKEN).", () -> {
            String twenty = "poor" + " or poor".repeat(19);
            String[] ones = {"not", "(", "shaded", "poor", "heir", "of", "wealth", "x", "y", "number"};
            for (String one : ones) {
                Texts.sentenceFault(twenty + " and  @" + one, 4);
                Texts.sentenceFault("(((( ((((  @" + one, 4);
            }
        });
    }

    /** The same of all three texts: how many bytes one may have, a good one, and how to look at it. */
    private static void mostBytes() {
        String[] good = {"sun east 1;", "hour 1;", "poor"};
        String[] unfinished = {"sun east", "hour", "not"};
        String[] word = {"person", "hour", "or"};
        int[] most = {900, 400, 200};
        for (int kind = 0; kind < 3; kind++) {
            int m = most[kind];
            String start = good[kind];
            String full = start + Texts.blanks(m - start.length());
            faultOf(kind, full + " ", 1, m);
            faultOf(kind, full + Texts.blanks(940 - m), 1, m);
            faultOf(kind, full + "\n.", 1, m);
            faultOf(kind, full + word[kind], 1, m);
            faultOf(kind, full + good[kind], 1, m);
            String shorter = full.substring(0, m - 1);
            faultOf(kind, shorter + ".", 1, m - 1);
            faultOf(kind, shorter + ".   ", 1, m - 1);
            faultOf(kind, shorter + word[kind], 1, m);
            faultOf(kind, shorter + "abcdefgh", 1, m - 1);
            faultOf(kind, shorter + "a1", 1, m - 1);
            faultOf(kind, shorter + "1234", 1, m - 1);
            String begun = unfinished[kind] + Texts.blanks(m - unfinished[kind].length());
            faultOf(kind, begun.substring(0, m - 1), 1, m - 1);
            faultOf(kind, begun, 1, m);
            faultOf(kind, begun + "   ", 1, m);
            faultOf(kind, begun + ")", 1, m);
        }
        // a TOKEN over the last byte, read whole: a NUMBER, a NAME, a WORD
        Texts.islandFault("ground 3" + Texts.blanks(891) + "80;", 2, 899);
        Texts.islandFault("ground 3" + Texts.blanks(890) + "80;", 2, 898);
        Texts.islandFault("person ab 0 0;person" + Texts.blanks(879) + "ab 0 0;", 3, 899);
        Texts.islandFault("person a 0 0;person" + Texts.blanks(880) + "ab 0 0;", 1, 900);
        Texts.bookFault("hour" + Texts.blanks(395) + "61;", 2, 399);
        Texts.bookFault("hour" + Texts.blanks(395) + "60;", 1, 400);
        Texts.bookFault("bury" + Texts.blanks(395) + "hallo;", 3, 399);
        Texts.bookFault("bury" + Texts.blanks(395) + "hall;", 1, 400);
        Texts.sentenceFault("of" + Texts.blanks(197) + "hallo", 3, 199);
        Texts.sentenceFault("of" + Texts.blanks(197) + "hall", 1, 200);
        Texts.sentenceFault("x <" + Texts.blanks(196) + "1000", 1, 199);
        Texts.sentenceFault("x <" + Texts.blanks(196) + "100", 1, 200);
        String forty = "hour 1;".repeat(40);
        Texts.bookFault(forty + Texts.blanks(119) + "hour", 4, 399);
        Texts.bookFault(forty + Texts.blanks(120) + "hour", 1, 400);
    }

    private static void faultOf(int kind, String text, int fault, int place) {
        switch (kind) {
            case 0:
                Texts.islandFault(text, fault, place);
                break;
            case 1:
                Texts.bookFault(text, fault, place);
                break;
            default:
                Texts.sentenceFault(text, fault, place);
                break;
        }
    }
}
