/** Promises 4 and 5: an ISLAND told as a text, its FAULTS, and what a new ISLAND sets back. */
public final class IslandTextTest {
    private static void fault(String text, int kind, int place) {
        ShadowHeirs x = Due.made("ground 4 3;stones 1 1 2;");
        x.lay(1, 1);
        String before = Due.state(x);
        Due.same("island of " + text, Due.island(x, text), -1 - place);
        Due.same("fault of " + text, x.fault(), kind);
        Due.same("it stays: " + text, Due.state(x), before);
        Due.same("its acts too", x.undo(), 0);
    }

    /** The FAULT is where the mark '@' stands (which is no part of the text). */
    private static void marked(String text, int kind) {
        int place = text.indexOf('@');
        fault(text.substring(0, place) + text.substring(place + 1), kind, place);
    }

    private static void good(String text, int lines) {
        ShadowHeirs x = new ShadowHeirs();
        Due.same("island of " + text, Due.island(x, text), lines);
        Due.same("fault of " + text, x.fault(), 0);
    }

    private static void texts() {
        good("", 0);
        good(" \n ", 0);
        good("ground 2 8;", 1);
        good("ground 8 2;", 1);
        good("\nground\n3 3\n;\nstones 0 0 1;", 2);
        good("sun east 1;ground 3 3;stones 2 2 9;", 3);
        good("house abcdefg 4 4 1 0;person a 0 0;person b 0 0;", 3);
        good("stones 004 04 009;", 1);
        good("sun east 1;sun south 9;sun west 1;sun north 1;sun east 1;sun east 1;sun east 1;sun east 1;", 8);
        good("house a 0 0 9 99;house b 1 0 1 0;house c 2 0 1 0;house d 3 0 1 0;house e 4 0 1 0;", 5);
        good("person a 0 0;person b 0 0;person c 0 0;person d 0 0;person e 0 0;person f 0 0;", 6);
        good("person xx 0 0;person yy 0 0;person hours 0 0;person no 0 0;", 4);
    }

    private static void read() {
        ShadowHeirs x = Due.made("ground 7 6;stones 6 5 9;house hall 0 5 8 99;house hut 6 0 1 0;"
            + "person ann 3 4;person bob 3 4;sun south 9;sun west 2;sun north 3;sun east 1;");
        int[] counts = {7, 6, 2, 2, 4, 0};
        for (int what = 0; what < counts.length; what++) {
            Due.same("count " + what, x.count(what), counts[what]);
        }
        Due.same("stones", x.cell(6, 5, 0), 9);
        int[][] houses = {{0, 5, 8, 99, 0, 0}, {6, 0, 1, 0, 0, 0}};
        for (int h = 0; h < 2; h++) {
            for (int what = 0; what < 6; what++) {
                Due.same("house " + h + " " + what, x.house(h, what), houses[h][what]);
            }
        }
        Due.same("both", x.cell(3, 4, 2), 3);
        Due.same("x", x.person(1, 0), 3);
        Due.same("y", x.person(1, 1), 4);
        Due.same("east at the fourth hour", x.shadow(0, 3), 5);
        Due.same("north at the third", x.shadow(0, 2), 2);
        Due.same("west at the rim", x.shadow(0, 1), 0);
        Due.same("south too steep", x.shadow(1, 0), 0);
    }

    private static void noToken() {
        marked("@Ground 3 3;", 1);
        marked("ground 3@\t3;", 1);
        marked("ground 3 3@.", 1);
        marked("@ground3 3;", 1);
        marked("ground @3a 3;", 1);
        marked("ground @1234 3;", 1);
        marked("ground @0003 3;", 1);
        marked("person @abcdefgh 0 0;", 1);
        marked("person @a1 0 0;", 1);
        marked("sun east @-1;", 1);
        marked("ground 3 3;@,", 1);
        fault("ground 3 3;" + (char) 0, 1, 11);
        fault("ground 3 3;" + (char) 255, 1, 11);
        fault("ground" + (char) 13 + "3 3;", 1, 6);
    }

    private static void cantCome() {
        marked("@;", 1);
        marked("ground 3 3;@;", 1);
        marked("@ann 0 0;", 1);
        marked("@lay 0 0;", 1);
        marked("@3;", 1);
        marked("@(", 1);
        marked("ground @;", 1);
        marked("ground 3@;", 1);
        marked("ground 3 @east;", 1);
        marked("ground 3 3 @3;", 1);
        marked("ground 3 3@", 1);
        marked("ground 3 3 \n @", 1);
        marked("ground@", 1);
        marked("ground @wide;", 1);
        marked("stones 0 0@", 1);
        marked("stones 0 0@;", 1);
        marked("stones 0 0 1@(", 1);
        marked("stones 0 0 1 @1;", 1);
        marked("house @3 0 0 1 1;", 1);
        marked("house a 0 0 1@;", 1);
        marked("house a 0 0 1 1@<", 1);
        marked("house@;", 1);
        marked("person a@;", 1);
        marked("person a 0@", 1);
        marked("sun @1 1;", 1);
        marked("sun @up 1;", 1);
        marked("sun @ground 1;", 1);
        marked("sun east@;", 1);
        marked("sun east 1@", 1);
        marked("sun east 1 @1;", 1);
    }

    private static void keptWordsAreNoNames() {
        String[] kept = {"ground", "stones", "house", "person", "sun", "east", "south", "west", "north", "lay", "tear",
            "bury", "hour", "or", "and", "not", "shaded", "poor", "heir", "of", "wealth", "x", "y", "number"};
        for (String word : kept) {
            marked("house @" + word + " 0 0 1 1;", 1);
            marked("person @" + word + " 0 0;", 1);
        }
    }

    private static void numbers() {
        marked("ground @1 3;", 2);
        marked("ground @9 3;", 2);
        marked("ground 3 @1;", 2);
        marked("ground 3 @9;", 2);
        marked("stones @5 0 1;", 2);
        marked("stones 0 @5 1;", 2);
        marked("ground 2 3;stones @2 0 1;", 2);
        marked("ground 2 3;stones 0 @3 1;", 2);
        marked("stones 0 0 @0;", 2);
        marked("stones 0 0 @10;", 2);
        marked("house a @5 0 1 1;", 2);
        marked("house a 0 @5 1 1;", 2);
        marked("house a 0 0 @0 1;", 2);
        marked("house a 0 0 @10 1;", 2);
        marked("house a 0 0 1 @100;", 2);
        marked("person a @999 0;", 2);
        marked("person a 0 @999;", 2);
        marked("sun east @0;", 2);
        marked("sun east @10;", 2);
    }

    private static void namesAndCells() {
        marked("house a 0 0 1 1;house @a 1 1 1 1;", 3);
        marked("house a 0 0 1 1;person @a 1 1;", 3);
        marked("person a 0 0;person @a 1 1;", 3);
        marked("person a 0 0;house @a 9 9 0 999;", 3);
        marked("stones 2 1 1;stones 2 @1 1;", 3);
        marked("stones 2 1 1;house a 2 @1 1 1;", 3);
        marked("stones 2 1 1;person a 2 @1;", 3);
        marked("house a 2 1 1 1;stones 2 @1 1;", 3);
        marked("house a 2 1 1 1;house b 2 @1 1 1;", 3);
        marked("house a 2 1 1 1;person b 2 @1;", 3);
        marked("person a 2 1;stones 2 @1 1;", 3);
        marked("person a 2 1;house b 2 @1 1 1;", 3);
        marked("ground 3 3;@ground 3 3;", 3);
        marked("ground 3 3;sun east 1;@ground 9 9;", 3);
        marked("stones 0 0 1;@ground 3 3;", 3);
        marked("house a 0 0 1 1;@ground 3 3;", 3);
        marked("person a 0 0;@ground 3 3;", 3);
    }

    private static void oneTooMany() {
        String five = "house a 0 0 1 1;house b 1 0 1 1;house c 2 0 1 1;house d 3 0 1 1;house e 4 0 1 1;";
        marked(five + "@house f 0 1 1 1;", 4);
        marked(five + "@house a 0 0 0 0", 4);
        String six = "person a 0 0;person b 0 0;person c 0 0;person d 0 0;person e 0 0;person f 0 0;";
        marked(six + "@person g 0 0;", 4);
        marked(six + "@person", 4);
        marked(Due.times("sun east 1;", 8) + "@sun east 1;", 4);
        marked(Due.times("sun east 1;", 8) + "@sun up", 4);
    }

    private static void bytes() {
        String line = "ground 3 3;";
        String blanks = Due.times(" ", 889);
        good(line + blanks, 1);
        fault(line + blanks + " ", 1, 900);
        fault(line + blanks + Due.times(" ", 40), 1, 900);
        fault(line + blanks + "sun east 1;", 1, 900);
        fault(blanks + Due.times(" ", 20) + line, 1, 900);
        fault(blanks + Due.times(" ", 10) + "ground 3 3;", 1, 900);
        // a FAULT ahead of byte 900 comes first, and a TOKEN that begins ahead of it is read whole
        fault("ground 3 9;" + blanks + Due.times(" ", 5), 2, 9);
        fault(blanks + Due.times(" ", 10) + "groundxyz 3 3;", 1, 899);
        fault(blanks + Due.times(" ", 8) + "ground3 3 3;", 1, 897);
        fault(line + Due.times(" ", 888) + "ground", 3, 899);
        fault(line + Due.times(" ", 888) + "sun east 1;", 1, 900);
        fault(line + Due.times(" ", 888) + "person", 1, 900);
        fault(line + Due.times(" ", 888) + "persons", 1, 899);
        fault("ground 3" + Due.times(" ", 891) + "99;", 2, 899);
        fault("ground 3" + Due.times(" ", 892) + "99;", 1, 900);
    }

    private static void newIslandIsNew() {
        String text = "house a 0 0 5 10;person p 1 0;person q 2 0;sun east 1;";
        ShadowHeirs fresh = Due.made(text);
        ShadowHeirs x = Due.made(text);
        x.lay(4, 4);
        x.bury(0);
        x.go(1, 1);
        x.hours(7);
        Due.sentence(x, "poor");
        Due.island(x, text);
        Due.same("as new", Due.state(x), Due.state(fresh));
        Due.same("no SENTENCE", x.said(-1), -1);
        Due.same("no acts", x.undo(), -1);
        Due.island(x, "");
        Due.same("5 by 5 and bare", Due.state(x), Due.state(new ShadowHeirs()));
    }

    private static void faultIsOfTheLatest() {
        ShadowHeirs x = new ShadowHeirs();
        Due.island(x, "ground 9 9;");
        Due.same("island", x.fault(), 2);
        x.book(7);
        Due.same("-1000 leaves it", x.fault(), 2);
        x.when();
        Due.same("when leaves it", x.fault(), 2);
        x.book(0);
        Due.same("an empty BOOK", x.fault(), 0);
        Due.book(x, "nobody east;", 0);
        Due.same("book", x.fault(), 3);
        Due.sentence(x, "poor");
        Due.same("sentence", x.fault(), 0);
        Due.sentence(x, "");
        Due.same("empty sentence", x.fault(), 1);
        x.book(-1);
        Due.same("-1000 leaves it", x.fault(), 1);
        Due.island(x, "");
        Due.same("empty island", x.fault(), 0);
    }

    public static void main(String[] args) {
        texts();
        read();
        noToken();
        cantCome();
        keptWordsAreNoNames();
        numbers();
        namesAndCells();
        oneTooMany();
        bytes();
        newIslandIsNew();
        faultIsOfTheLatest();
        Due.finish("IslandTextTest");
    }
}
