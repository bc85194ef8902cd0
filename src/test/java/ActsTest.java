/** Promises 6 to 15: what is asked of cells, HOUSES, PERSONS and now; the acts, the HOUR, and acts undone. */
public final class ActsTest {
    private static final String TEXT = "ground 6 4;stones 3 1 2;house hall 0 1 6 31;house hut 5 3 2 9;"
        + "person ann 1 1;person bob 2 1;person cid 2 1;person dot 5 1;sun east 1;sun north 1;sun west 4;";

    private static void cells() {
        ShadowHeirs x = Due.made(TEXT);
        Due.same("stones", x.cell(3, 1, 0), 2);
        Due.same("house", x.cell(5, 3, 0), 2);
        Due.same("bare", x.cell(1, 1, 0), 0);
        Due.same("house 1", x.cell(5, 3, 1), 1);
        Due.same("no house", x.cell(3, 1, 1), -1);
        Due.same("persons", x.cell(2, 1, 2), 6);
        Due.same("nobody", x.cell(0, 0, 2), 0);
        Due.same("shadow on stones", x.cell(3, 1, 3), 1);
        Due.same("no shadow on itself", x.cell(0, 1, 3), 0);
        x.hours(1);
        Due.same("north of the hut", x.cell(5, 2, 3), 2);
        Due.same("north of the hall", x.cell(0, 0, 3), 1);
        Due.same("no longer", x.cell(3, 1, 3), 0);
        for (int what = 0; what < 4; what++) {
            Due.same("x -1", x.cell(-1, 0, what), -1);
            Due.same("x 6", x.cell(6, 0, what), -1);
            Due.same("y -1", x.cell(0, -1, what), -1);
            Due.same("y 4", x.cell(0, 4, what), -1);
            Due.same("far", x.cell(Integer.MAX_VALUE, Integer.MIN_VALUE, what), -1);
        }
        Due.same("what -1", x.cell(0, 0, -1), -1);
        Due.same("what 4", x.cell(0, 0, 4), -1);
        ShadowHeirs both = Due.made("house a 0 2 5 1;house b 4 2 5 1;sun east 1;");
        Due.same("a touched house", both.cell(4, 2, 3), 0);
        ShadowHeirs low = Due.made("house a 0 2 5 1;house b 3 2 1 1;sun east 1;");
        Due.same("a low house is touched", low.cell(3, 2, 3), 1);
        Due.same("and what is behind it too", low.cell(4, 2, 3), 1);
    }

    private static void houses() {
        ShadowHeirs x = Due.made(TEXT);
        int[] want = {0, 1, 6, 31, 0, 15};
        for (int what = 0; what < 6; what++) {
            Due.same("hall " + what, x.house(0, what), want[what]);
        }
        x.bury(0);
        Due.same("goods", x.house(0, 3), 0);
        Due.same("buried", x.house(0, 4), 1);
        Due.same("it still throws its shadow", x.house(0, 5), 15);
        x.hours(1);
        Due.same("touches nobody", x.house(0, 5), 0);
        Due.noSuch("house -1", () -> x.house(-1, 0));
        Due.noSuch("house 2", () -> x.house(2, 0));
        Due.noSuch("what -1", () -> x.house(0, -1));
        Due.noSuch("what 6", () -> x.house(0, 6));
        ShadowHeirs dark = Due.made("house a 0 0 9 9;person p 1 0;");
        Due.same("no table, no shadows", dark.house(0, 5), 0);
        Due.same("no table", dark.now(1), -1);
        Due.same("no table, no shadows", dark.person(0, 3), 0);
    }

    private static void persons() {
        ShadowHeirs x = Due.made(TEXT);
        int[] want = {5, 1, 0, 1, 14};
        for (int what = 0; what < 5; what++) {
            Due.same("dot " + what, x.person(3, what), want[what]);
        }
        Due.same("ann's sides", x.person(0, 4), 1 | 2 | 8);
        Due.same("bob's sides", x.person(1, 4), 2 | 4 | 8);
        x.bury(0);
        Due.same("wealth", x.person(3, 2), 7);
        Due.same("the sea", x.now(5), 3);
        Due.same("buried ones too", x.person(3, 3), 1);
        Due.noSuch("person -1", () -> x.person(-1, 0));
        Due.noSuch("person 4", () -> x.person(4, 0));
        Due.noSuch("what -1", () -> x.person(0, -1));
        Due.noSuch("what 5", () -> x.person(0, 5));
    }

    private static void going() {
        ShadowHeirs x = Due.made("ground 3 2;stones 1 1 1;house a 2 0 1 1;person p 0 0;person q 0 0;");
        Due.same("north: no cell", x.go(0, 3), 1);
        Due.same("west: no cell", x.go(0, 2), 1);
        Due.same("east", x.go(0, 0), 0);
        Due.same("he is there", x.person(0, 0), 1);
        Due.same("a house", x.go(0, 0), 2);
        Due.same("stones", x.go(0, 1), 2);
        Due.same("west, to q", x.go(0, 2), 0);
        Due.same("both", x.cell(0, 0, 2), 3);
        Due.same("south", x.go(0, 1), 0);
        Due.same("y", x.person(0, 1), 1);
        Due.same("south: no cell", x.go(0, 1), 1);
        Due.same("north", x.go(0, 3), 0);
        Due.same("y", x.person(0, 1), 0);
        Due.same("steps", x.now(6), 4);
        Due.same("p 2", x.go(2, 0), -1);
        Due.same("p -1", x.go(-1, 0), -1);
        Due.same("side 4", x.go(0, 4), -1);
        Due.same("side -1", x.go(0, -1), -1);
        Due.same("steps", x.now(6), 4);
        ShadowHeirs rim = Due.made("ground 2 2;person p 1 1;");
        Due.same("east rim of a narrow ground", rim.go(0, 0), 1);
        Due.same("south rim", rim.go(0, 1), 1);
    }

    private static void stones() {
        ShadowHeirs x = Due.made("ground 3 2;stones 1 1 8;house a 2 0 9 1;person p 0 0;");
        Due.same("a house", x.lay(2, 0), 1);
        Due.same("somebody", x.lay(0, 0), 2);
        Due.same("on stones", x.lay(1, 1), 0);
        Due.same("nine high", x.lay(1, 1), 3);
        Due.same("high", x.cell(1, 1, 0), 9);
        Due.same("on bare ground", x.lay(0, 1), 0);
        Due.same("all stones", x.now(3), 10);
        Due.same("laid", x.now(7), 2);
        Due.same("tear", x.tear(1, 1), 0);
        Due.same("high", x.cell(1, 1, 0), 8);
        Due.same("tear", x.tear(0, 1), 0);
        Due.same("none left", x.tear(0, 1), 1);
        Due.same("a house has no stones", x.tear(2, 0), 1);
        Due.same("nobody is made of stones", x.tear(0, 0), 1);
        Due.same("all stones", x.now(3), 8);
        Due.same("laid so far", x.now(7), 2);
        int[][] none = {{-1, 0}, {3, 0}, {0, -1}, {0, 2}, {Integer.MIN_VALUE, Integer.MAX_VALUE}};
        for (int[] at : none) {
            Due.same("lay beyond", x.lay(at[0], at[1]), -1);
            Due.same("tear beyond", x.tear(at[0], at[1]), -1);
        }
    }

    private static void burials() {
        ShadowHeirs x = Due.made("house a 0 0 9 20;house b 0 4 9 7;house c 4 4 1 50;person p 1 0;person q 2 0;"
            + "person r 3 0;person s 1 4;sun east 1;");
        Due.same("bury -1", x.bury(-1), -1);
        Due.same("bury 3", x.bury(3), -1);
        Due.same("a", x.bury(0), 0);
        Due.same("p has", x.person(0, 2), 6);
        Due.same("r has", x.person(2, 2), 6);
        Due.same("s has", x.person(3, 2), 0);
        Due.same("the rest", x.now(5), 2);
        Due.same("again", x.bury(0), 1);
        Due.same("c touches nobody", x.bury(2), 0);
        Due.same("all of it", x.now(5), 52);
        Due.same("b", x.bury(1), 0);
        Due.same("all to s", x.person(3, 2), 7);
        Due.same("buried", x.now(2), 7);
        Due.same("in all", x.now(4), 25);
        Due.same("the sea", x.now(5), 52);
        ShadowHeirs few = Due.made("house a 0 0 9 2;person p 1 0;person q 1 0;person r 1 0;sun east 1;");
        few.bury(0);
        Due.same("cut to nothing", few.now(4), 0);
        Due.same("the sea has it", few.now(5), 2);
        ShadowHeirs dark = Due.made("house a 0 0 9 12;person p 1 0;");
        Due.same("no table", dark.bury(0), 0);
        Due.same("the sea", dark.now(5), 12);
        ShadowHeirs later = Due.made("house a 2 2 9 12;person p 1 2;person q 2 1;sun east 1;sun west 1;sun north 1;");
        later.hours(4);
        Due.same("the hour of now", later.now(1), 1);
        later.bury(0);
        Due.same("p", later.person(0, 2), 12);
        Due.same("q", later.person(1, 2), 0);
    }

    private static void hoursGo() {
        ShadowHeirs x = Due.made("sun east 1;sun west 1;sun north 1;");
        Due.same("hours 0", x.hours(0), -1);
        Due.same("hours -1", x.hours(-1), -1);
        Due.same("hours 61", x.hours(61), -1);
        Due.same("undo", x.undo(), -1);
        for (int i = 1; i <= 6; i++) {
            Due.same("hours 60", x.hours(60), 60);
            Due.same("the HOUR", x.now(0), 60 * i);
        }
        Due.same("hours 39", x.hours(39), 39);
        Due.same("399", x.now(1), 0);
        Due.same("the last", x.hours(60), 1);
        Due.same("all are over", x.now(0), 400);
        Due.same("400 modulo 3", x.now(1), 1);
        Due.same("none go", x.hours(1), 0);
        Due.same("nothing kept of that", x.undo(), 7);
        Due.same("399", x.now(0), 399);
        Due.same("what 8", x.now(8), -1);
        Due.same("what -1", x.now(-1), -1);
    }

    private static void undone() {
        ShadowHeirs x = Due.made(TEXT);
        String[] before = new String[20];
        int n = 0;
        before[n++] = brief(x);
        x.go(0, 3);
        before[n++] = brief(x);
        x.lay(4, 0);
        before[n++] = brief(x);
        x.tear(3, 1);
        before[n++] = brief(x);
        x.bury(0);
        before[n++] = brief(x);
        x.hours(5);
        before[n++] = brief(x);
        x.drawn(3, 9);
        before[n++] = brief(x);
        Due.book(x, "hour 2;", 1);
        // none of these is an act that was done
        x.go(9, 9);
        for (int p = 0; p < 4; p++) {
            for (int side = 0; side < 4; side++) {
                if ((x.person(p, 4) >> side & 1) == 0) {
                    x.go(p, side);
                }
            }
        }
        x.lay(0, 1);
        x.tear(0, 1);
        x.bury(0);
        x.hours(0);
        x.drawn(0, 0);
        Due.book(x, "bury hall;hour 2;", 1);
        Due.book(x, "", 1);
        Due.book(x, "hour 2;", 0);
        Due.book(x, "hour 200;", 1);
        Due.sentence(x, "poor");
        x.image(0);
        x.odds(0, 3, 3);
        for (int i = n - 1; i >= 0; i--) {
            Due.same("undo", x.undo(), i);
            Due.same("as before act " + i, brief(x), before[i]);
        }
        Due.same("no more", x.undo(), -1);
        Due.same("the SENTENCE stays", x.said(-1), 4);
    }

    private static void eightAreKept() {
        ShadowHeirs x = Due.made(TEXT);
        int[] before = new int[11];
        for (int i = 0; i < 11; i++) {
            before[i] = x.cell(1, 2, 0);
            x.lay(1, 2);
            if (i == 5) {
                x.undo();
                x.lay(1, 2);
            }
            x.lay(0, 1);
        }
        Due.same("nine high by nine", x.cell(1, 2, 0), 9);
        for (int i = 7; i >= 0; i--) {
            Due.same("eight are kept", x.undo(), i);
            Due.same("as before", x.cell(1, 2, 0), before[i + 1]);
        }
        Due.same("no more", x.undo(), -1);
    }

    /** What acts change, in few calls. */
    private static String brief(ShadowHeirs x) {
        StringBuilder all = new StringBuilder();
        for (int what = 0; what <= 7; what++) {
            all.append(x.now(what)).append(' ');
        }
        for (int p = 0; p < 4; p++) {
            for (int what = 0; what <= 2; what++) {
                all.append(x.person(p, what)).append(' ');
            }
        }
        return all.append(x.house(0, 3)).append(' ').append(x.house(1, 3)).append(' ').append(x.cell(3, 1, 0))
            .append(' ').append(x.cell(4, 0, 0)).append(' ').append(x.cell(1, 2, 0)).toString();
    }

    public static void main(String[] args) {
        cells();
        houses();
        persons();
        going();
        stones();
        burials();
        hoursGo();
        undone();
        eightAreKept();
        Due.finish("ActsTest");
    }
}
