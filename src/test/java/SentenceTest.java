/** Promises 34 to 37: what may be said of which PERSON, and images. */
public final class SentenceTest {
    private static final String TEXT = "ground 6 4;stones 3 1 2;house hall 0 1 6 31;house hut 5 3 4 9;"
        + "person ann 1 1;person bob 2 1;person cid 2 0;person dot 5 1;sun east 1;sun north 1;";

    private static void fault(String text, int kind, int place) {
        ShadowHeirs x = Due.made(TEXT);
        Due.sentence(x, "number = 2");
        Due.same("sentence of " + text, Due.sentence(x, text), -1 - place);
        Due.same("fault of " + text, x.fault(), kind);
        Due.same("it stays", x.said(0), 2);
    }

    private static void marked(String text, int kind) {
        int place = text.indexOf('@');
        fault(text.substring(0, place) + text.substring(place + 1), kind, place);
    }

    private static void faults() {
        marked("@", 1);
        marked(" \n @", 1);
        marked("@ann", 1);
        marked("@hall", 1);
        marked("@;", 1);
        marked("@)", 1);
        marked("@and poor", 1);
        marked("@or", 1);
        marked("@3 < wealth", 1);
        marked("@east", 1);
        marked("poor@;", 1);
        marked("poor @poor", 1);
        marked("poor @not poor", 1);
        marked("poor@)", 1);
        marked("poor and@", 1);
        marked("poor and @and poor", 1);
        marked("poor or@", 1);
        marked("not@", 1);
        marked("not @or", 1);
        marked("(@", 1);
        marked("(@)", 1);
        marked("(poor@", 1);
        marked("(poor @poor)", 1);
        marked("(poor)@(", 1);
        marked("of@", 1);
        marked("of @3", 1);
        marked("of @(", 1);
        marked("of @poor", 1);
        marked("of @sun", 1);
        marked("of @nothing", 3);
        marked("of @ann", 3);
        marked("wealth@", 1);
        marked("wealth @3", 1);
        marked("wealth @(3", 1);
        marked("wealth <@", 1);
        marked("wealth <@= 3", 1);
        marked("wealth < @x", 1);
        marked("wealth < @1000", 1);
        marked("x@;", 1);
        marked("@x1 = 1", 1);
        marked("@z = 1", 1);
        marked("wealth < 3 @3", 1);
        marked("poor@.", 1);
        marked("@Poor", 1);
    }

    private static void tooMany() {
        ShadowHeirs x = Due.made(TEXT);
        String twenty = "poor" + Due.times(" or poor", 19);
        Due.same("20 ONES", Due.sentence(x, twenty), 20);
        marked(twenty + " or @poor", 4);
        marked(twenty + " and @(", 4);
        marked("poor" + Due.times(" and poor", 19) + " and @poor", 4);
        marked("poor" + Due.times(" and poor", 19) + " or @poor", 4);
        marked(twenty + " and @of", 4);
        marked(twenty + " and @of sea", 4);
        marked(twenty + " and @ann", 1);
        marked(twenty + " and@", 1);
        Due.same("8 within one another", Due.sentence(x, Due.times("not ", 7) + "poor"), 8);
        Due.same("8 within one another", Due.sentence(x, Due.times("(", 7) + "poor or heir" + Due.times(")", 7)), 9);
        marked(Due.times("not ", 8) + "@poor", 4);
        marked(Due.times("not ", 8) + "@not poor", 4);
        marked(Due.times("(", 8) + "@poor", 4);
        marked(Due.times("(", 8) + "@of", 4);
        marked(Due.times("(", 8) + "@and", 1);
        marked("poor and not(not(not(not(@(poor", 4);
        Due.same("again and again, one by one", Due.sentence(x, "((((poor)))) and ((((poor)))) and not not poor"), 13);
        Due.same("200 bytes", Due.sentence(x, "poor" + Due.times(" ", 196)), 1);
        fault("poor" + Due.times(" ", 197), 1, 200);
        fault("poor" + Due.times(" ", 400), 1, 200);
        fault("poor" + Due.times(" ", 195) + "or poor", 1, 200);
        fault("poor" + Due.times(" ", 195) + "poor", 1, 199);
        fault("poor or" + Due.times(" ", 192) + "poor", 1, 200);
        fault("poor or of" + Due.times(" ", 189) + "ann", 3, 199);
    }

    private static void said(ShadowHeirs x, String text, int ones, int bits) {
        Due.same("sentence: " + text, Due.sentence(x, text), ones);
        Due.same("fault: " + text, x.fault(), 0);
        Due.same("how many: " + text, x.said(-1), Integer.bitCount(bits));
        int k = 0;
        for (int p = 0; p < 6; p++) {
            if ((bits >> p & 1) == 1) {
                Due.same("the " + k + "th: " + text, x.said(k), p);
                k++;
            }
        }
        Due.same("none such", x.said(k), -1);
        Due.same("none such", x.said(Integer.MAX_VALUE), -1);
        Due.same("none such", x.said(-2), -1);
        Due.same("none such", x.said(Integer.MIN_VALUE), -1);
    }

    private static void meanings() {
        ShadowHeirs x = Due.made(TEXT);
        said(x, "shaded", 1, 1 | 2 | 8);
        said(x, "poor", 1, 15);
        said(x, "heir", 1, 0);
        said(x, "of hall", 1, 11);
        said(x, "of hut", 1, 0);
        said(x, "x = 2", 1, 6);
        said(x, "x < 2", 1, 1);
        said(x, "x > 2", 1, 8);
        said(x, "y = 0", 1, 4);
        said(x, "y > 0", 1, 11);
        said(x, "y < 1", 1, 4);
        said(x, "number = 3", 1, 8);
        said(x, "number < 2", 1, 3);
        said(x, "number>001", 1, 12);
        said(x, "wealth = 0", 1, 15);
        said(x, "wealth < 999", 1, 15);
        said(x, "not poor", 2, 0);
        said(x, "not not poor", 3, 15);
        said(x, "not shaded", 2, 4);
        said(x, "( poor )", 2, 15);
        said(x, "number=0 or number=1 and x=0", 3, 1);
        said(x, "x=0 and number=1 or number=0", 3, 1);
        said(x, "(number=0 or number=1) and x=2", 4, 2);
        said(x, "not number=0 and number<2", 3, 2);
        said(x, "not(number=0 and number<2)", 4, 14);
        said(x, "number=0 or number=1 or number=3", 3, 11);
        said(x, "number<3 and number>0 and x=2 and not y=0", 5, 2);
        said(x, "number = 1 and (x = 1 or (y = 1 and not (x = 3 or x = 4))) or number = 3", 10, 10);
        x.bury(0);
        said(x, "poor", 1, 4);
        said(x, "heir", 1, 11);
        said(x, "wealth > 9", 1, 11);
        said(x, "wealth = 10", 1, 11);
        said(x, "shaded", 1, 0);
        said(x, "of hall", 1, 11);
        x.hours(1);
        Due.same("now it does not touch them", x.said(-1), 0);
        said(x, "of hut and shaded", 2, 8);
        said(x, "heir", 1, 11);
        x.undo();
        x.undo();
        Due.same("undone", x.said(-1), 0);
        said(x, "poor", 1, 15);
        Due.same("ahead of any", Due.made(TEXT).said(-1), -1);
        Due.same("ahead of any", Due.made(TEXT).said(0), -1);
        ShadowHeirs empty = new ShadowHeirs();
        said(empty, "poor", 1, 0);
        ShadowHeirs nothing = Due.made("house a 0 0 9 1;person p 1 0;person q 1 0;sun east 1;");
        nothing.bury(0);
        said(nothing, "heir", 1, 0);
        said(nothing, "poor", 1, 3);
        ShadowHeirs six = Due.made("person a 0 0;person b 0 0;person c 0 0;person d 0 0;person e 0 0;person f 0 0;");
        said(six, "number > 0 and not number = 4", 3, 46);
    }

    private static void images() {
        ShadowHeirs x = Due.made(TEXT);
        Due.no("image -1", x.image(-1));
        Due.no("image 2", x.image(2));
        Due.no("restore 0", x.restore(0));
        Due.no("restore -1", x.restore(-1));
        Due.no("restore 2", x.restore(2));
        x.lay(4, 0);
        String first = Due.state(x);
        Due.yes("image 0", x.image(0));
        Due.no("nothing in place 1", x.restore(1));
        Due.same("it can still be undone", x.undo(), 0);
        x.bury(0);
        x.go(0, 3);
        x.hours(3);
        Due.sentence(x, "of hut");
        String second = Due.state(x);
        int said = x.said(-1);
        Due.yes("image 1", x.image(1));
        Due.island(x, "ground 8 8;house z 7 7 9 9;person w 0 0;sun west 1;");
        x.slip(0);
        x.longest();
        Due.book(x, "w east;", 1);
        Due.tape(x, "kept");
        Due.yes("restore 0", x.restore(0));
        Due.same("as kept", Due.state(x), first);
        Due.same("no SENTENCE then", x.said(-1), -1);
        Due.same("nothing can be undone", x.undo(), -1);
        Due.same("the tape stays", x.count(5), 4);
        Due.same("the slip stays", x.byteAt(0), 'w');
        Due.same("longestAt stays", x.longestAt(1), 0);
        Due.same("told stays", x.told(1), 1);
        Due.same("names too", Due.slip(x, 0), "ann at 1 1 has 0 of hall");
        x.hours(9);
        Due.yes("restore 1", x.restore(1));
        Due.same("as kept", Due.state(x), second);
        Due.same("its SENTENCE", x.said(-1), said);
        Due.same("nothing can be undone", x.undo(), -1);
        Due.sentence(x, "poor");
        x.hours(1);
        Due.no("restore 2", x.restore(2));
        Due.same("a false one leaves all", x.undo(), 0);
        Due.yes("restore 0 again", x.restore(0));
        Due.same("as kept", x.now(7), 1);
        x.hours(1);
        x.image(0);
        x.hours(1);
        Due.yes("restore 0", x.restore(0));
        Due.same("the latest image", x.now(0), 1);
        Due.yes("place 1 is its own", x.restore(1));
        Due.same("as kept", x.now(0), 3);
    }

    public static void main(String[] args) {
        faults();
        tooMany();
        meanings();
        images();
        Due.finish("SentenceTest");
    }
}
