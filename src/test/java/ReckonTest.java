/** Promises 16 to 29: SHADOWS, heirs, SHARE, BEST, SPARE, CROWD, NEAR, WHEN, ASK, LONGEST, SLIP. */
public final class ReckonTest {
    private static void shadows() {
        ShadowHeirs x = Due.made("ground 8 8;stones 3 4 2;stones 2 6 9;stones 2 0 1;house a 2 4 7 1;person p 4 4;"
            + "person q 5 4;person r 2 5;person s 3 3;sun east 2;sun east 1;sun south 2;sun west 3;sun north 1;"
            + "sun north 2;sun south 7;sun south 9;");
        int[] cells = {3, 5, 1, 2, 4, 3, 0, 0};
        int[] heirs = {3, 3, 4, 0, 0, 0, 0, 0};
        for (int hour = 0; hour < 8; hour++) {
            Due.same("shadow " + hour, x.shadow(0, hour), cells[hour]);
            Due.same("heirs " + hour, x.heirs(0, hour), heirs[hour]);
        }
        int[][] none = {{-1, 0}, {1, 0}, {0, -1}, {0, 8}, {Integer.MAX_VALUE, Integer.MIN_VALUE}};
        for (int[] at : none) {
            Due.same("shadow", x.shadow(at[0], at[1]), -1);
            Due.same("heirs", x.heirs(at[0], at[1]), -1);
        }
        ShadowHeirs edge = Due.made("stones 2 0 3;house a 0 0 5 1;person p 1 0;person q 3 0;sun east 1;sun east 2;");
        Due.same("as high as the stones: it ends", edge.shadow(0, 0), 1);
        edge.tear(2, 0);
        Due.same("one higher: it goes on", edge.shadow(0, 0), 4);
        Due.same("both", edge.heirs(0, 0), 3);
        Due.same("behind the stones none", edge.heirs(0, 1), 1);
    }

    private static void shares() {
        ShadowHeirs x = Due.made("house a 2 2 9 9;house b 0 0 1 1;person p 3 2;person q 4 2;person r 3 2;person s 2 1;"
            + "sun west 1;sun east 1;sun east 4;sun east 5;sun north 1;");
        int[][] above = {{0, 1, 1, 1, 0}, {0, 1, 1, 0, 0}, {0, 1, 1, 1, 0}, {0, 0, 0, 0, 1}};
        int[][] below = {{1, 3, 3, 2, 1}, {1, 3, 3, 1, 1}, {1, 3, 3, 2, 1}, {1, 1, 1, 1, 1}};
        for (int p = 0; p < 4; p++) {
            for (int hour = 0; hour < 5; hour++) {
                Due.same("above " + p + " " + hour, x.share(p, 0, hour, 0), above[p][hour]);
                Due.same("below " + p + " " + hour, x.share(p, 0, hour, 1), below[p][hour]);
            }
        }
        Due.noSuch("p", () -> x.share(4, 0, 0, 0));
        Due.noSuch("p", () -> x.share(-1, 0, 0, 0));
        Due.noSuch("h", () -> x.share(0, 2, 0, 0));
        Due.noSuch("h", () -> x.share(0, -1, 0, 0));
        Due.noSuch("hour", () -> x.share(0, 0, 5, 0));
        Due.noSuch("hour", () -> x.share(0, 0, -1, 0));
        Due.noSuch("what", () -> x.share(0, 0, 0, 2));
        Due.noSuch("what", () -> x.share(0, 0, 0, -1));
        Due.same("best of p", x.best(0, 0), 3);
        Due.same("best of q: the first of like ones", x.best(1, 0), 1);
        Due.same("best of s", x.best(3, 0), 4);
        Due.same("never", x.best(0, 1), -1);
        Due.same("no such p", x.best(4, 0), -1);
        Due.same("no such p", x.best(-1, 0), -1);
        Due.same("no such h", x.best(0, 2), -1);
        Due.same("no such h", x.best(0, -1), -1);
        ShadowHeirs all = Due.made("house a 0 0 9 9;person p 1 0;person q 1 0;person r 1 0;person s 1 0;person t 1 0;"
            + "person u 1 0;sun west 1;sun east 1;");
        Due.same("a sixth is the best there is", all.best(5, 0), 1);
        Due.same("a sixth", all.share(5, 0, 1, 1), 6);
    }

    private static void sparing() {
        ShadowHeirs x = Due.made("ground 8 8;stones 3 0 2;stones 4 0 1;house a 0 0 9 9;person p 5 0;person q 1 0;"
            + "person r 2 0;person s 0 1;sun east 1;sun south 1;sun west 1;");
        // shades 8 7 6 5 4 3 2; stones 0 0 2 1: by 4 in the third and in the fourth cell
        Due.same("spareAt ahead of any", x.spareAt(), -1);
        Due.same("not touched", x.spare(3, 0, 0), 0);
        Due.same("ahead of any above 0", x.spareAt(), -1);
        Due.same("p", x.spare(0, 0, 0), 4);
        Due.same("the nearest of like ones", x.spareAt(), 3);
        Due.same("q stands next to it", x.spare(1, 0, 0), -1);
        Due.same("nobody lays on q", x.spare(2, 0, 0), -1);
        Due.same("s next to it", x.spare(3, 0, 1), -1);
        Due.same("stays", x.spareAt(), 3);
        Due.same("not west", x.spare(0, 0, 2), 0);
        x.lay(4, 0);
        Due.same("fewer further on", x.spare(0, 0, 0), 3);
        Due.same("there", x.spareAt(), 4);
        x.go(3, 1);
        x.go(3, 1);
        Due.same("s, south", x.spare(3, 0, 1), 7);
        Due.same("8 by Y and X", x.spareAt(), 16);
        x.go(0, 1);
        Due.same("0 leaves it", x.spare(0, 0, 0), 0);
        Due.same("stays", x.spareAt(), 16);
        Due.same("p", x.spare(4, 0, 0), -1);
        Due.same("p", x.spare(-1, 0, 0), -1);
        Due.same("h", x.spare(0, 1, 0), -1);
        Due.same("hour", x.spare(0, 0, 3), -1);
        Due.same("hour", x.spare(0, 0, -1), -1);
        ShadowHeirs between = Due.made("house a 0 0 9 9;house b 1 0 1 1;person p 2 0;sun east 1;");
        Due.same("not on a house", between.spare(0, 0, 0), -1);
        Due.same("stays for a new ISLAND", spareOver(x), 16);
        ShadowHeirs most = Due.made("house a 0 0 9 9;person p 2 0;sun east 1;");
        Due.same("as many as there can be", most.spare(0, 0, 0), 8);
        Due.same("there", most.spareAt(), 1);
    }

    private static int spareOver(ShadowHeirs x) {
        Due.island(x, "");
        return x.spareAt();
    }

    private static void crowds() {
        ShadowHeirs x = Due.made("ground 8 3;stones 3 1 1;house a 0 1 9 9;person p 1 1;person q 1 1;person r 1 1;"
            + "person s 7 2;sun east 2;sun west 1;");
        // touched: x 1, 2, 3 (stones), 4
        Due.same("k 0", x.crowd(0, 0, 0), 1);
        Due.same("k 1", x.crowd(0, 0, 1), 2);
        Due.same("k 3", x.crowd(0, 0, 3), 2);
        Due.same("k 4", x.crowd(0, 0, 4), 3);
        Due.same("k 5", x.crowd(0, 0, 5), 3);
        Due.same("k 30", x.crowd(0, 0, 30), 3);
        Due.same("west, at the rim", x.crowd(0, 1, 30), 0);
        Due.same("k 31", x.crowd(0, 0, 31), -1);
        Due.same("k -1", x.crowd(0, 0, -1), -1);
        Due.same("h", x.crowd(1, 0, 0), -1);
        Due.same("h", x.crowd(-1, 0, 0), -1);
        Due.same("hour", x.crowd(0, 2, 0), -1);
        Due.same("hour", x.crowd(0, -1, 0), -1);
        // who can take one cell alone must have it
        ShadowHeirs tight = Due.made("ground 5 2;stones 2 1 1;stones 0 1 1;house a 0 0 9 9;person p 1 0;person q 1 1;"
            + "person r 4 1;sun east 4;");
        Due.same("two cells", tight.shadow(0, 0), 2);
        Due.same("p moves on for q", tight.crowd(0, 0, 1), 2);
        ShadowHeirs none = Due.made("house a 0 0 9 9;sun east 1;");
        Due.same("nobody is there", none.crowd(0, 0, 9), 0);
    }

    private static void nearness() {
        ShadowHeirs x = Due.made("ground 4 4;stones 1 0 1;stones 1 1 1;stones 1 2 1;house a 3 0 3 3;person p 0 0;"
            + "person q 3 2;person r 2 2;sun south 1;sun west 1;sun east 1;");
        Due.same("touched", x.near(1, 0, 0), 0);
        Due.same("a step", x.near(2, 0, 0), 1);
        Due.same("round the stones", x.near(0, 0, 0), 7);
        Due.same("west", x.near(0, 0, 1), 8);
        Due.same("no cell is touched", x.near(0, 0, 2), -1);
        x.lay(1, 3);
        Due.same("walled in", x.near(0, 0, 0), -1);
        Due.same("not into stones that are touched", x.near(0, 0, 1), -1);
        Due.same("p", x.near(3, 0, 0), -1);
        Due.same("p", x.near(-1, 0, 0), -1);
        Due.same("h", x.near(0, 1, 0), -1);
        Due.same("h", x.near(0, -1, 0), -1);
        Due.same("hour", x.near(0, 0, 3), -1);
        Due.same("hour", x.near(0, 0, -1), -1);
    }

    private static int when(ShadowHeirs x, int... bytes) {
        Due.tape(x, bytes);
        return x.when();
    }

    private static void whenAndAsk() {
        ShadowHeirs x = Due.made("house a 2 2 9 9;house b 0 0 1 1;person p 3 2;person q 4 2;person r 2 1;"
            + "sun east 1;sun east 5;sun north 1;sun south 1;sun west 2;");
        // touched: p at 0 1, q at 0, r at 2
        Due.same("ask ahead of any", x.ask(), -1);
        Due.same("p", when(x, 0, 0, 1), 3);
        Due.same("q tells the two apart", x.ask(), 1);
        Due.same("not p", when(x, 0, 0, 0), 4 + 8 + 16);
        Due.same("r", x.ask(), 2);
        Due.same("not p, not r", when(x, 0, 0, 0, 2, 0), 8 + 16);
        Due.same("of like ones the first", x.ask(), 0);
        Due.same("p and not q", when(x, 0, 0, 1, 1, 0), 2);
        Due.same("one is left", x.ask(), 0);
        Due.same("p", when(x, 0, 0, 1), 3);
        Due.same("q and not p", when(x, 0, 0, 0, 1, 1), 0);
        Due.same("0 leaves it", x.ask(), 1);
        Due.same("p and not p", when(x, 0, 0, 1, 0, 0), 0);
        Due.same("b touches none", when(x, 1, 0, 0), 31);
        Due.same("six pairs", when(x, 0, 0, 1, 0, 1, 0, 1, 0, 1, 0, 1, 0, 1), 3);
        Due.same("seven", when(x, 0, 0, 1, 0, 1, 0, 1, 0, 1, 0, 1, 0, 1, 0, 1), -1);
        Due.same("not as told leaves it", x.ask(), 1);
        Due.same("none", when(x), -1);
        Due.same("no pair", when(x, 0), -1);
        Due.same("half a pair", when(x, 0, 0), -1);
        Due.same("one and a half", when(x, 0, 0, 1, 0), -1);
        Due.same("no such house", when(x, 2, 0, 1), -1);
        Due.same("no such house", when(x, 255, 0, 1), -1);
        Due.same("no such person", when(x, 0, 3, 1), -1);
        Due.same("no such person", when(x, 0, 255, 1), -1);
        Due.same("2", when(x, 0, 0, 2), -1);
        Due.same("2 at last", when(x, 0, 0, 1, 0, 2), -1);
        Due.same("255", when(x, 0, 0, 255), -1);
        Due.same("p", when(x, 0, 0, 1), 3);
        x.go(1, 1);
        Due.same("as it was then", x.ask(), 1);
        Due.island(x, "house a 0 0 1 1;person p 1 1;");
        Due.same("no table", when(x, 0, 0, 0), 0);
        Due.same("stays", x.ask(), 1);
    }

    private static void longestOnes() {
        ShadowHeirs x = Due.made("ground 8 8;house a 0 0 3 1;house b 0 4 9 1;house c 7 7 9 1;sun east 9;sun south 1;"
            + "sun east 2;sun west 2;");
        Due.same("ahead of any", x.longestAt(0), -1);
        Due.same("longest", x.longest(), 4);
        Due.same("the first house of like ones", x.longestAt(0), 1);
        Due.same("its hour", x.longestAt(1), 2);
        Due.same("what", x.longestAt(2), -1);
        Due.same("what", x.longestAt(-1), -1);
        x.lay(2, 4);
        for (int i = 0; i < 8; i++) {
            x.lay(2, 4);
        }
        Due.same("stays", x.longestAt(0), 1);
        Due.same("longest", x.longest(), 4);
        Due.same("another", x.longestAt(0), 2);
        Due.same("its hour", x.longestAt(1), 3);
        Due.island(x, "house a 4 4 3 1;sun east 1;");
        Due.same("none", x.longest(), 0);
        Due.same("0 leaves it", x.longestAt(0), 2);
        Due.same("0 leaves it", x.longestAt(1), 3);
        Due.island(x, "house a 0 0 4 1;sun east 1;sun south 1;");
        Due.same("longest", x.longest(), 3);
        Due.same("the first hour of like ones", x.longestAt(1), 0);
    }

    private static void slips() {
        ShadowHeirs x = Due.made("house abcdefg 0 4 9 99;house b 0 3 9 98;person uvwxyzz 1 4;person p 1 3;person q 4 0;"
            + "sun east 1;sun south 1;");
        Due.same("slip", Due.slip(x, 0), "uvwxyzz at 1 4 has 0 of abcdefg");
        Due.same("past it", x.byteAt(31), -1);
        Due.same("ahead of it", x.byteAt(-1), -1);
        Due.same("none such", x.slip(3), -1);
        Due.same("none such", x.slip(-1), -1);
        Due.same("the latest stays", x.byteAt(0), 'u');
        Due.same("slip", Due.slip(x, 1), "p at 1 3 has 0 of b");
        Due.same("slip", Due.slip(x, 2), "q at 4 0 has 0");
        x.bury(0);
        x.bury(1);
        Due.same("slip", Due.slip(x, 0), "uvwxyzz at 1 4 has 99");
        Due.same("slip", Due.slip(x, 1), "p at 1 3 has 98");
        ShadowHeirs rich = Due.made("house a 0 0 9 99;house b 0 1 9 99;house c 0 2 9 99;person p 1 0;sun east 1;");
        rich.bury(0);
        rich.go(0, 1);
        rich.bury(1);
        rich.go(0, 1);
        Due.same("slip", Due.slip(rich, 0), "p at 1 2 has 198 of c");
        ShadowHeirs two = Due.made("house a 0 0 9 0;house b 1 0 2 10;house c 3 0 9 5;person p 2 0;sun east 1;sun west 1;");
        Due.same("the first that touches him", Due.slip(two, 0), "p at 2 0 has 0 of a");
        two.bury(0);
        Due.same("the next", Due.slip(two, 0), "p at 2 0 has 0 of b");
        two.bury(1);
        Due.same("none now", Due.slip(two, 0), "p at 2 0 has 10");
        two.hours(1);
        Due.same("c at the next hour", Due.slip(two, 0), "p at 2 0 has 10 of c");
    }

    public static void main(String[] args) {
        shadows();
        shares();
        sparing();
        crowds();
        nearness();
        whenAndAsk();
        longestOnes();
        slips();
        Due.finish("ReckonTest");
    }
}
