/** The document's sentences about what is reckoned, and promises 16 to 29. */
final class DocReckon {
    private static final int LEAST = Integer.MIN_VALUE;
    private static final int MOST = Integer.MAX_VALUE;
    private static final String SIX_ON_ONE =
        "person p 1 0;person q 1 0;person r 1 0;person s 1 0;person t 1 0;person u 1 0;";
    /** 5 HOUSES, 6 PERSONS, 8 hours: as many as there may be. */
    private static final String FULL = "ground 8 8;house a 0 0 9 9;house b 7 7 9 9;house c 3 3 9 9;house d 0 7 9 9;"
        + "house e 7 0 9 9;person p 1 0;person q 2 0;person r 3 4;person s 6 7;person t 0 6;person u 5 5;"
        + "sun east 1;sun south 1;sun west 1;sun north 1;sun east 5;sun south 5;sun west 5;sun north 5;";

    private DocReckon() {
    }

    private static void terms(String words, Runnable test) {
        Doc.says("Terms", words, test);
    }

    private static void says(int promise, String words, Runnable test) {
        Doc.says("Promise " + promise, words, test);
    }

    static void all() {
        shadowAndHeirs();
        shares();
        sparing();
        crowds();
        nearness();
        whens();
        longest();
        slips();
    }

    private interface ByHouseAndHour {
        int answer(int h, int hour);
    }

    /** No such HOUSE, no such hour of the table: NONE. */
    private static void noSuchShadow(ShadowHeirs x, ByHouseAndHour call) {
        String before = Due.state(x);
        int houses = x.count(2);
        int hours = x.count(4);
        for (int h : new int[] {-1, houses, 5, 32, LEAST, MOST}) {
            Due.same("HOUSE " + h, call.answer(h, 0), -1);
        }
        for (int hour : new int[] {-1, hours, 8, 400, LEAST, MOST}) {
            Due.same("hour " + hour, call.answer(0, hour), -1);
        }
        Due.same("nothing is changed", Due.state(x), before);
    }

    private static void shadowAndHeirs() {
        says(16, "How many cells the SHADOW of a HOUSE touches at an hour of the table;", () -> {
            ShadowHeirs x = Due.made(FULL);
            int[][] cells = {{6, 6, 0, 0, 1, 1, 0, 0}, {0, 0, 6, 6, 0, 0, 1, 1}, {4, 4, 3, 3, 1, 1, 1, 1},
                {6, 0, 0, 6, 1, 0, 0, 1}, {0, 6, 6, 0, 0, 1, 1, 0}};
            for (int h = 0; h < 5; h++) {
                for (int hour = 0; hour < 8; hour++) {
                    Due.same("HOUSE " + h + " at " + hour, x.shadow(h, hour), cells[h][hour]);
                }
            }
            x.hours(3);
            x.bury(0);
            Due.same("at any hour, buried or not", x.shadow(0, 0), 6);
            Due.same("as many as there can be", Due.made("ground 8 2;house a 0 0 9 9;sun east 1;").shadow(0, 0), 7);
        });
        says(16, "NONE: no such ones.", () -> {
            noSuchShadow(Due.made(FULL), Due.made(FULL)::shadow);
            ShadowHeirs one = Due.made("house a 0 0 1 1;sun east 1;");
            noSuchShadow(one, one::shadow);
            Due.same("no table", Due.made("house a 0 0 1 1;").shadow(0, 0), -1);
            Due.same("no HOUSE", Due.made("sun east 1;").shadow(0, 0), -1);
        });
        says(17, "PERSONS whom it touches, as bits;", () -> {
            ShadowHeirs x = Due.made(FULL);
            int[][] heirs = {{3, 16, 0, 0, 1, 0, 0, 0}, {0, 0, 8, 0, 0, 0, 8, 0}, {0, 4, 0, 0, 0, 4, 0, 0},
                {8, 0, 0, 16, 0, 0, 0, 16}, {0, 0, 3, 0, 0, 0, 0, 0}};
            for (int h = 0; h < 5; h++) {
                for (int hour = 0; hour < 8; hour++) {
                    Due.same("HOUSE " + h + " at " + hour, x.heirs(h, hour), heirs[h][hour]);
                }
            }
            Due.same("all six", Due.made("house a 0 0 2 0;sun east 1;" + SIX_ON_ONE).heirs(0, 0), 63);
            Due.same("nobody is there", Due.made("house a 0 0 2 0;sun east 1;").heirs(0, 0), 0);
            ShadowHeirs rim = Due.made("house a 0 0 4 0;person p 3 0;person q 4 0;sun east 1;");
            Due.same("above 0 and at 0", rim.heirs(0, 0), 1);
        });
        says(17, "NONE: no such ones.", () -> {
            noSuchShadow(Due.made(FULL), Due.made(FULL)::heirs);
            ShadowHeirs one = Due.made("house a 0 0 1 1;sun east 1;");
            noSuchShadow(one, one::heirs);
            Due.same("no table", Due.made("house a 0 0 1 1;").heirs(0, 0), -1);
        });
    }

    private static void shares() {
        terms("SHARE of a PERSON in a HOUSE at an hour of the table: 1 by how many PERSONS are TOUCHED there then, if he "
            + "is, else 0.", () -> {
            String[] all = {"p", "q", "r", "s", "t", "u"};
            for (int n = 0; n <= 6; n++) {
                StringBuilder text = new StringBuilder("house a 0 0 9 1;sun west 1;sun east 1;");
                for (int p = 0; p < 6; p++) {
                    text.append("person ").append(all[p]).append(p < n ? " 1 0;" : " 1 1;");
                }
                ShadowHeirs x = Due.made(text.toString());
                for (int p = 0; p < 6; p++) {
                    Due.same("above", x.share(p, 0, 1, 0), p < n ? 1 : 0);
                    Due.same("below", x.share(p, 0, 1, 1), p < n ? n : 1);
                    Due.same("another hour, above", x.share(p, 0, 0, 0), 0);
                    Due.same("another hour, below", x.share(p, 0, 0, 1), 1);
                }
            }
        });
        terms("All fractions are told by two numbers: 0 above, 1 below, in least terms.", () -> {
            ShadowHeirs x = Due.made("house a 0 0 9 60;sun east 1;person p 1 0;person q 2 0;person r 0 1;");
            Due.same("a half, above", x.share(0, 0, 0, 0), 1);
            Due.same("a half, below", x.share(0, 0, 0, 1), 2);
            Due.same("nothing, above", x.share(2, 0, 0, 0), 0);
            Due.same("nothing, below", x.share(2, 0, 0, 1), 1);
        });
        says(18, "SHARE.", () -> {
            ShadowHeirs x = Due.made(FULL);
            Due.same("above", x.share(0, 0, 0, 0), 1);
            Due.same("below", x.share(0, 0, 0, 1), 2);
            Due.same("alone", x.share(0, 0, 4, 1), 1);
            x.bury(0);
            Due.same("of a buried one, too", x.share(0, 0, 0, 1), 2);
        });
        says(18, "NoSuchElementException: no such ones.", () -> {
            ShadowHeirs x = Due.made(FULL);
            for (int n : new int[] {-1, 6, LEAST, MOST}) {
                Due.noSuch("PERSON " + n, () -> x.share(n, 0, 0, 0));
            }
            for (int n : new int[] {-1, 5, LEAST, MOST}) {
                Due.noSuch("HOUSE " + n, () -> x.share(0, n, 0, 0));
            }
            for (int n : new int[] {-1, 8, LEAST, MOST}) {
                Due.noSuch("hour " + n, () -> x.share(0, 0, n, 0));
            }
            for (int n : new int[] {-1, 2, LEAST, MOST}) {
                Due.noSuch("what " + n, () -> x.share(0, 0, 0, n));
            }
            Due.same("the last ones", x.share(5, 4, 7, 1), 1);
            ShadowHeirs dark = Due.made("house a 0 0 1 1;person p 1 0;");
            Due.noSuch("no table", () -> dark.share(0, 0, 0, 0));
        });
        terms("BEST: the hour at which it is the greatest (of like ones the first).", () -> {
            ShadowHeirs x = Due.made("house a 0 0 9 9;person p 1 0;person q 2 0;person r 3 0;person s 0 1;"
                + "sun east 1;sun east 3;sun east 4;sun east 5;sun south 1;sun east 8;");
            // p alone at 3 only (at 5 his cell is 1 high in shadow, too); q never alone
            Due.same("p: alone first at hour 3", x.best(0, 0), 3);
            Due.same("q: of two first at hour 1", x.best(1, 0), 1);
            Due.same("r: of three", x.best(2, 0), 0);
            Due.same("s: alone", x.best(3, 0), 4);
            Due.same("the least SHARE there is", Due.made("house a 0 0 2 0;sun west 1;sun east 1;" + SIX_ON_ONE).best(5, 0),
                1);
        });
        says(19, "BEST of a PERSON and a HOUSE: the hour;", () -> {
            ShadowHeirs x = Due.made(FULL);
            Due.same("p and a", x.best(0, 0), 4);
            Due.same("q and a", x.best(1, 0), 0);
            Due.same("q and e", x.best(1, 4), 2);
            Due.same("the last hour", Due.made("house a 0 0 9 9;person p 1 0;" + "sun west 1;".repeat(7) + "sun east 1;")
                .best(0, 0), 7);
        });
        says(19, "NONE: it never touches him, no such ones.", () -> {
            ShadowHeirs x = Due.made(FULL);
            Due.same("never", x.best(5, 0), -1);
            Due.same("no table", Due.made("house a 0 0 9 9;person p 1 0;").best(0, 0), -1);
            for (int n : new int[] {-1, 6, LEAST, MOST}) {
                Due.same("PERSON " + n, x.best(n, 0), -1);
            }
            for (int n : new int[] {-1, 5, LEAST, MOST}) {
                Due.same("HOUSE " + n, x.best(0, n), -1);
            }
            Due.same("nobody, nothing", new ShadowHeirs().best(0, 0), -1);
        });
    }

    private static void sparing() {
        terms("SPARE a PERSON a HOUSE's SHADOW at an hour: the fewest stones that must be laid in one cell (where one can "
            + "be laid) so that it does not touch him; of like ones the nearest to the HOUSE.", () -> {
            for (int high = 3; high <= 9; high++) {
                for (int far = 2; far <= Math.min(high - 1, 7); far++) {
                    ShadowHeirs x = Due.made("ground 8 2;house a 0 0 " + high + " 0;person p " + far + " 0;sun east 1;");
                    Due.same("bare ground: next to him", x.spare(0, 0, 0), high - far + 1);
                    Due.same("there", x.spareAt(), far - 1);
                    for (int i = high - far + 1; i > 0; i--) {
                        Due.same("it touches him still", x.heirs(0, 0), 1);
                        Due.same("lay", x.lay(far - 1, 0), 0);
                    }
                    Due.same("he is spared", x.heirs(0, 0), 0);
                }
            }
            ShadowHeirs like = Due.made("ground 8 2;house a 0 0 9 0;stones 1 0 4;stones 2 0 3;stones 3 0 1;person p 5 0;"
                + "sun east 1;");
            Due.same("4, 4, 5, 5", like.spare(0, 0, 0), 4);
            Due.same("the nearest", like.spareAt(), 1);
            like.lay(2, 0);
            Due.same("4, 3, 5, 5", like.spare(0, 0, 0), 3);
            Due.same("there", like.spareAt(), 2);
            like.lay(3, 0);
            like.lay(3, 0);
            Due.same("4, 3, 3, 5", like.spare(0, 0, 0), 3);
            Due.same("the nearest", like.spareAt(), 2);
            ShadowHeirs taken = Due.made("ground 8 2;house a 0 0 9 0;house b 1 0 7 0;person q 2 0;stones 3 0 1;person p 4 0;"
                + "sun east 1;");
            Due.same("not on a HOUSE, not on q, not on himself", taken.spare(1, 0, 0), 5);
            Due.same("there", taken.spareAt(), 3);
        });
        says(20, "SPARE: how many stones (0: it does not touch him);", () -> {
            ShadowHeirs x = Due.made("ground 8 8;house a 3 3 9 0;person p 5 3;person q 6 3;person r 3 5;person s 4 4;"
                + "sun east 1;sun south 1;sun west 1;sun north 1;sun east 4;");
            int[] due = {8, 0, 0, 0, 5};
            for (int hour = 0; hour < 5; hour++) {
                Due.same("p at " + hour, x.spare(0, 0, hour), due[hour]);
            }
            Due.same("q, behind p", x.spare(1, 0, 0), 8);
            Due.same("r", x.spare(2, 0, 1), 8);
            Due.same("not touched", x.spare(3, 0, 0), 0);
            Due.same("just where it ends", Due.made("house a 0 0 3 0;person p 3 0;sun east 1;").spare(0, 0, 0), 0);
            Due.same("just where it is 1", Due.made("house a 0 0 3 0;person p 2 0;sun east 1;").spare(0, 0, 0), 2);
            Due.same("spared already", Due.made("house a 0 0 9 0;stones 1 0 8;person p 2 0;sun east 1;").spare(0, 0, 0), 0);
            Due.same("by one", Due.made("house a 0 0 9 0;stones 1 0 7;person p 2 0;sun east 1;").spare(0, 0, 0), 1);
        });
        says(20, "NONE: by none, no such ones.", () -> {
            Due.same("next to it", Due.made("house a 0 0 9 0;person p 1 0;sun east 1;").spare(0, 0, 0), -1);
            Due.same("somebody is between", Due.made("house a 0 0 9 0;person p 2 0;person q 1 0;sun east 1;")
                .spare(0, 0, 0), -1);
            Due.same("a HOUSE is between", Due.made("house a 0 0 9 0;house b 1 0 1 0;person p 2 0;sun east 1;")
                .spare(0, 0, 0), -1);
            ShadowHeirs x = Due.made(FULL);
            Due.same("not touched", x.spare(5, 4, 7), 0);
            for (int p : new int[] {-1, 6, LEAST, MOST}) {
                Due.same("PERSON " + p, x.spare(p, 0, 0), -1);
            }
            noSuchShadow(x, (h, hour) -> x.spare(0, h, hour));
            Due.same("no table", Due.made("house a 0 0 9 0;person p 1 0;").spare(0, 0, 0), -1);
        });
        says(21, "The cell by the latest spare() above 0: 8 by Y and X;", () -> {
            ShadowHeirs x = Due.made("ground 8 8;house a 7 4 9 0;house b 5 7 9 0;house c 2 2 9 0;person p 5 4;person q 3 2;"
                + "person r 2 4;sun west 1;sun north 1;sun east 1;sun south 1;");
            Due.same("p", x.spare(0, 0, 0), 8);
            Due.same("8 by 4 and 6", x.spareAt(), 38);
            Due.same("p", x.spare(0, 1, 1), 7);
            Due.same("8 by 5 and 5", x.spareAt(), 45);
            Due.same("0", x.spare(0, 0, 1), 0);
            Due.same("it stays", x.spareAt(), 45);
            Due.same("NONE", x.spare(1, 2, 2), -1);
            Due.same("it stays", x.spareAt(), 45);
            Due.same("no such", x.spare(9, 0, 0), -1);
            Due.same("it stays", x.spareAt(), 45);
            Due.same("r", x.spare(2, 2, 3), 8);
            Due.same("8 by 3 and 2", x.spareAt(), 26);
            Due.island(x, "");
            Due.same("it stays for a new ISLAND", x.spareAt(), 26);
        });
        says(21, "NONE ahead of any.", () -> {
            ShadowHeirs x = Due.made("house a 0 0 9 0;person p 1 0;person q 0 4;sun east 1;");
            Due.same("ahead of any", x.spareAt(), -1);
            x.spare(0, 0, 0);
            x.spare(1, 0, 0);
            x.spare(2, 0, 0);
            Due.same("ahead of any above 0", x.spareAt(), -1);
        });
    }

    private static void crowds() {
        terms("CROWD of a HOUSE at an hour for k: how many PERSONS, at most, can stand each in another cell that is "
            + "TOUCHED, behind k steps each (all can stand in one cell on their way).", () -> {
            String six = "ground 8 8;house a 0 0 9 0;sun east 1;" + SIX_ON_ONE;
            int[] by = {1, 2, 3, 4, 5, 6, 6};
            for (int k = 0; k < by.length; k++) {
                Due.same("six in one cell, " + k, Due.made(six).crowd(0, 0, k), by[k]);
            }
            Due.same("no more than there are cells", Due.made("house a 0 0 3 0;sun east 1;" + SIX_ON_ONE).crowd(0, 0, 30), 2);
            Due.same("no more than there are PERSONS", Due.made("ground 8 2;house a 0 0 9 0;sun east 1;person p 0 1;")
                .crowd(0, 0, 30), 1);
            // through one cell of a wall
            ShadowHeirs wall = Due.made("ground 4 3;stones 0 1 1;stones 2 1 1;stones 3 1 1;house a 0 0 9 0;person p 0 2;"
                + "person q 1 2;person r 2 2;sun east 1;");
            int[] through = {0, 0, 1, 2, 3};
            for (int k = 0; k < through.length; k++) {
                Due.same("through one cell, " + k, wall.crowd(0, 0, k), through[k]);
            }
            // q can take one cell alone, p must leave it to him
            ShadowHeirs leave = Due.made("ground 3 2;house a 0 0 9 0;person p 1 0;person q 1 1;stones 2 1 1;stones 0 1 1;"
                + "sun east 4;");
            Due.same("two cells", leave.shadow(0, 0), 2);
            Due.same("p steps on", leave.crowd(0, 0, 1), 2);
            Due.same("without a step", leave.crowd(0, 0, 0), 1);
            // nobody stands on stones or a HOUSE, if they are TOUCHED or not
            ShadowHeirs stones = Due.made("ground 4 2;house a 0 0 9 0;stones 1 0 1;house b 2 0 1 0;person p 1 1;"
                + "person q 2 1;sun east 1;");
            Due.same("three cells", stones.shadow(0, 0), 3);
            Due.same("one to stand in", stones.crowd(0, 0, 30), 1);
        });
        says(22, "CROWD for k (0 to 30): how many;", () -> {
            ShadowHeirs x = Due.made("ground 8 8;house a 7 6 2 0;person p 0 0;sun south 1;");
            Due.same("0", x.crowd(0, 0, 0), 0);
            Due.same("13", x.crowd(0, 0, 13), 0);
            Due.same("14", x.crowd(0, 0, 14), 1);
            Due.same("30", x.crowd(0, 0, 30), 1);
            ShadowHeirs maze = Due.made(MAZE);
            Due.same("30 steps in a maze are not enough", maze.crowd(0, 0, 30), 0);
            maze.go(0, 0);
            Due.same("one step on they are", maze.crowd(0, 0, 30), 1);
            Due.same("29 are not", maze.crowd(0, 0, 29), 0);
        });
        says(22, "NONE: no such ones.", () -> {
            ShadowHeirs x = Due.made(FULL);
            for (int k : new int[] {-1, 31, LEAST, MOST}) {
                Due.same("k " + k, x.crowd(0, 0, k), -1);
            }
            noSuchShadow(x, (h, hour) -> x.crowd(h, hour, 0));
            Due.same("the last ones", x.crowd(4, 7, 30), 0);
            Due.same("no table", Due.made("house a 0 0 1 1;").crowd(0, 0, 0), -1);
        });
    }

    /** A way of 31 steps from the first cell to the one below the HOUSE. */
    private static final String MAZE = mazeText();

    private static String mazeText() {
        String[] rows = {
            "p.......",
            "#######.",
            "........",
            ".#######",
            "........",
            "###a###.",
            "........",
            "########"};
        StringBuilder text = new StringBuilder("ground 8 8;house a 3 5 2 0;person p 0 0;sun south 1;");
        for (int y = 0; y < 8; y++) {
            for (int cx = 0; cx < 8; cx++) {
                if (rows[y].charAt(cx) == '#') {
                    text.append("stones ").append(cx).append(' ').append(y).append(" 9;");
                }
            }
        }
        return text.toString();
    }

    private static void nearness() {
        terms("NEAR: the fewest steps in which a PERSON can come to a cell that is TOUCHED by it then.", () -> {
            for (int far = 0; far < 8; far++) {
                ShadowHeirs x = Due.made("ground 8 8;house a 0 0 9 0;person p 7 " + far + ";sun east 1;sun south 8;");
                Due.same("north to it", x.near(0, 0, 0), far);
                Due.same("to the one cell below the HOUSE", x.near(0, 0, 1), 7 + Math.abs(far - 1));
            }
            Due.same("round about", Due.made(MAZE).near(0, 0, 0), 31);
            ShadowHeirs x = Due.made("ground 4 2;house a 0 0 9 0;stones 1 0 1;house b 2 0 1 0;person p 1 1;sun east 1;");
            Due.same("not to stones, not to a HOUSE", x.near(0, 0, 0), 3);
            ShadowHeirs others = Due.made("ground 3 2;house a 0 0 9 0;person p 1 1;person q 1 0;person r 2 0;sun east 1;");
            Due.same("to where somebody is", others.near(0, 0, 0), 1);
        });
        says(23, "NEAR: how many steps;", () -> {
            ShadowHeirs x = Due.made(FULL);
            Due.same("he is there", x.near(0, 0, 0), 0);
            Due.same("u to c, south", x.near(5, 2, 1), 2);
            Due.same("the farthest corner", Due.made("ground 8 8;house a 7 6 2 0;person p 0 0;sun south 1;").near(0, 0, 0),
                14);
        });
        says(23, "NONE: never, no such ones.", () -> {
            ShadowHeirs x = Due.made(FULL);
            Due.same("it touches no cell", x.near(0, 0, 2), -1);
            Due.same("walled in", Due.made("person p 0 0;stones 1 0 1;stones 0 1 1;house a 4 4 2 0;sun north 1;")
                .near(0, 0, 0), -1);
            ShadowHeirs corner = Due.made("ground 3 3;house a 1 0 2 0;person p 0 2;person q 2 2;stones 1 2 1;stones 2 1 1;"
                + "sun west 1;");
            Due.same("into the corner", corner.near(0, 0, 0), 2);
            Due.same("he is walled in, though others are not", corner.near(1, 0, 0), -1);
            Due.same("nor is he in the crowd", corner.crowd(0, 0, 30), 1);
            Due.same("only stones are touched", Due.made("ground 2 2;person p 1 1;stones 1 0 1;house a 0 0 9 0;sun east 1;")
                .near(0, 0, 0), -1);
            for (int p : new int[] {-1, 6, LEAST, MOST}) {
                Due.same("PERSON " + p, x.near(p, 0, 0), -1);
            }
            noSuchShadow(x, (h, hour) -> x.near(0, h, hour));
            Due.same("no table", Due.made("house a 0 0 9 0;person p 1 0;").near(0, 0, 0), -1);
        });
    }

    private static int when(ShadowHeirs x, int... bytes) {
        Due.tape(x, bytes);
        return x.when();
    }

    private static final String WHEN = "house a 2 2 9 9;house b 0 0 1 1;person p 3 2;person q 4 2;person r 2 1;"
        + "person s 0 2;person t 2 3;person u 4 4;sun east 1;sun east 5;sun north 1;sun south 1;sun west 2;sun west 8;"
        + "sun north 9;sun south 8;";

    private static void whens() {
        // touched: p at 0 1, q at 0, r at 2, s at 4, t at 3 7, u never
        terms("WHEN by the tape (a byte: a HOUSE; then pairs: a PERSON, 1 TOUCHED, 0 not; 1 to 6 of them): hours of the "
            + "table at which these would be just so.", () -> {
            ShadowHeirs x = Due.made(WHEN);
            int[] touched = {3, 1, 4, 16, 128 + 8, 0};
            for (int p = 0; p < 6; p++) {
                Due.same("PERSON " + p + " TOUCHED", when(x, 0, p, 1), touched[p]);
                Due.same("PERSON " + p + " not", when(x, 0, p, 0), 255 - touched[p]);
                Due.same("by b never", when(x, 1, p, 1), 0);
                Due.same("by b never", when(x, 1, p, 0), 255);
            }
            Due.same("two", when(x, 0, 0, 1, 1, 0), 2);
            Due.same("six", when(x, 0, 0, 0, 1, 0, 2, 0, 3, 0, 4, 0, 5, 0), 32 + 64);
            Due.same("six, one of them TOUCHED", when(x, 0, 0, 0, 1, 0, 2, 0, 3, 0, 4, 1, 5, 0), 128 + 8);
            Due.same("six, the last of them TOUCHED", when(x, 0, 0, 0, 1, 0, 2, 0, 3, 0, 4, 0, 5, 1), 0);
            Due.same("one told twice", when(x, 0, 0, 1, 0, 1), 3);
            Due.same("and otherwise", when(x, 0, 0, 1, 0, 0), 0);
        });
        says(24, "WHEN: hours, as bits;", () -> {
            ShadowHeirs x = Due.made(WHEN);
            x.hours(5);
            Due.same("at any hour", when(x, 0, 0, 1), 3);
            x.go(0, 0);
            Due.same("by where they stand", when(x, 0, 0, 1), 1);
            Due.same("the last hour", when(x, 0, 4, 1), 128 + 8);
            Due.same("no table, no hours", when(Due.made("house a 0 0 1 1;person p 1 1;"), 0, 0, 0), 0);
        });
        says(24, "NONE: not as told.", () -> {
            int[][] wrong = {{}, {0}, {0, 0}, {0, 0, 1, 1}, {0, 0, 1, 0, 1, 0, 1, 0, 1, 0, 1, 0, 1, 0},
                {0, 0, 1, 0, 1, 0, 1, 0, 1, 0, 1, 0, 1, 0, 1}, {2, 0, 1}, {5, 0, 1}, {255, 0, 1}, {0, 6, 1}, {0, 255, 1},
                {0, 0, 2}, {0, 0, 255}, {0, 0, 1, 6, 0}, {0, 0, 1, 0, 2}, {0, 0, 1, 1, 1, 2, 1, 3, 1, 4, 1, 5, 2}};
            for (int[] bytes : wrong) {
                ShadowHeirs x = Due.made(WHEN);
                Due.same("p", when(x, 0, 0, 1), 3);
                Due.same(java.util.Arrays.toString(bytes), when(x, bytes), -1);
                Due.same("the tape is empty", x.count(5), 0);
                Due.same("ASK stays", x.ask(), 1);
                Due.same("no FAULT", x.fault(), 0);
            }
            Due.same("no such PERSON", when(Due.made("house a 0 0 1 1;sun east 1;"), 0, 0, 0), -1);
            Due.same("no such HOUSE", when(Due.made("person p 0 0;sun east 1;"), 0, 0, 0), -1);
            ShadowHeirs full = Due.made(WHEN);
            Due.tape(full, new int[940]);
            Due.same("a full tape", full.when(), -1);
            Due.same("is empty then", full.count(5), 0);
        });
        terms("ASK: the PERSON of whom, if one hears whether he was TOUCHED, the greatest number of these that may still be "
            + "left is the least (of like ones the first).", () -> {
            ShadowHeirs x = Due.made(WHEN);
            Due.same("p", when(x, 0, 0, 1), 3);
            Due.same("q tells the two apart", x.ask(), 1);
            // of 8: p leaves 6 (or 2), q 7, r 7, s 7, t 6, u 8
            Due.same("u never", when(x, 0, 5, 0), 255);
            Due.same("p and t are alike: p", x.ask(), 0);
            // of 2 3 4 5 6 7: t leaves 4, others 5 or 6
            Due.same("not p", when(x, 0, 0, 0), 252);
            Due.same("t", x.ask(), 4);
            Due.same("one is left", when(x, 0, 1, 1), 1);
            Due.same("all are alike: the first", x.ask(), 0);
            // at all eight hours b touches nobody: all are alike
            Due.same("p", when(x, 0, 0, 1), 3);
            Due.same("b", when(x, 1, 3, 0), 255);
            Due.same("all are alike: the first", x.ask(), 0);
            // of the HOUSE that is told
            ShadowHeirs two = Due.made("house a 0 0 9 9;house b 0 4 9 9;person p 1 0;person q 1 4;sun east 1;sun west 1;");
            Due.same("a", when(two, 0, 1, 0), 3);
            Due.same("p tells", two.ask(), 0);
            Due.same("b", when(two, 1, 0, 0), 3);
            Due.same("q tells", two.ask(), 1);
            // who is TOUCHED at all but one is as good as who is not at all but one
            ShadowHeirs most = Due.made("house a 0 0 9 9;person p 4 4;person q 1 0;sun east 1;sun east 2;sun south 1;");
            Due.same("any", when(most, 0, 0, 0), 7);
            Due.same("q", most.ask(), 1);
        });
        says(25, "ASK by the latest when() above 0;", () -> {
            ShadowHeirs x = Due.made(WHEN);
            when(x, 0, 0, 1);
            Due.same("q", x.ask(), 1);
            Due.same("0", when(x, 0, 5, 1), 0);
            Due.same("it stays", x.ask(), 1);
            Due.same("NONE", when(x, 9), -1);
            Due.same("it stays", x.ask(), 1);
            when(x, 0, 0, 0);
            Due.same("the latest", x.ask(), 4);
            Due.island(x, "");
            Due.same("it stays for a new ISLAND", x.ask(), 4);
        });
        says(25, "NONE ahead of any.", () -> {
            ShadowHeirs x = Due.made(WHEN);
            Due.same("ahead of any", x.ask(), -1);
            when(x, 0, 5, 1);
            when(x, 0, 6, 1);
            Due.same("ahead of any above 0", x.ask(), -1);
        });
    }

    private static void longest() {
        terms("LONGEST: of all HOUSES and hours of the table the SHADOW that touches most cells (of like ones the first "
            + "HOUSE, then the first hour).", () -> {
            ShadowHeirs x = Due.made("ground 8 8;house a 0 0 3 1;house b 0 7 5 1;house c 7 0 5 1;sun south 1;sun east 2;"
                + "sun east 1;sun west 1;");
            Due.same("longest", x.longest(), 4);
            Due.same("b comes ahead of c, which comes ahead in hours", x.longestAt(0), 1);
            Due.same("at its first hour", x.longestAt(1), 2);
            ShadowHeirs hours = Due.made("house a 0 0 9 1;sun west 1;sun south 1;sun east 1;");
            Due.same("longest", hours.longest(), 4);
            Due.same("of like hours the first", hours.longestAt(1), 1);
            ShadowHeirs last = Due.made("ground 8 8;house a 0 0 2 1;house b 0 7 3 1;sun north 9;sun east 1;sun north 1;");
            Due.same("longest", last.longest(), 2);
            Due.same("the last HOUSE", last.longestAt(0), 1);
        });
        says(26, "LONGEST: how many cells (0: none touches any, or there are none).", () -> {
            Due.same("as many as there can be", Due.made("ground 8 2;house a 0 0 9 9;sun east 1;").longest(), 7);
            Due.same("one", Due.made("house a 0 0 2 0;sun east 1;").longest(), 1);
            Due.same("none touches any", Due.made("house a 0 0 1 0;sun east 1;").longest(), 0);
            Due.same("no HOUSES", Due.made("sun east 1;").longest(), 0);
            Due.same("no hours", Due.made("house a 0 0 9 0;").longest(), 0);
            Due.same("neither", new ShadowHeirs().longest(), 0);
        });
        says(27, "Its HOUSE (what 0), its hour (1), by the latest longest() above 0;", () -> {
            ShadowHeirs x = Due.made("ground 8 2;house b 7 1 2 0;house a 0 0 9 0;sun west 1;sun east 1;");
            x.longest();
            Due.same("HOUSE", x.longestAt(0), 1);
            Due.same("hour", x.longestAt(1), 1);
            for (int i = 0; i < 9; i++) {
                x.lay(1, 0);
            }
            Due.same("it stays", x.longestAt(0), 1);
            Due.same("b now", x.longest(), 1);
            Due.same("HOUSE", x.longestAt(0), 0);
            Due.same("hour", x.longestAt(1), 0);
            Due.island(x, "");
            Due.same("0", x.longest(), 0);
            Due.same("it stays", x.longestAt(0), 0);
            Due.same("it stays", x.longestAt(1), 0);
        });
        says(27, "NONE for another what, or ahead of any.", () -> {
            ShadowHeirs x = Due.made(FULL);
            Due.same("ahead of any", x.longestAt(0), -1);
            Due.same("ahead of any", x.longestAt(1), -1);
            x.longest();
            for (int what : new int[] {-1, 2, LEAST, MOST}) {
                Due.same("what " + what, x.longestAt(what), -1);
            }
            ShadowHeirs none = Due.made("house a 0 0 1 0;sun east 1;");
            none.longest();
            Due.same("ahead of any above 0", none.longestAt(0), -1);
            Due.same("ahead of any above 0", none.longestAt(1), -1);
        });
    }

    private static void slips() {
        terms("SLIP of a PERSON: his NAME, ' at ', X, a blank, Y as digits, ' has ' and his wealth as digits,", () -> {
            ShadowHeirs x = Due.made("ground 8 8;house a 0 0 9 99;house b 0 1 9 1;house c 0 2 9 9;house d 0 3 9 10;"
                + "house e 0 4 9 99;person p 7 0;person abcdefg 0 7;person zzzzzzz 7 7;sun east 1;");
            String[] due = {"p at 7 1 has 99 of b", "p at 7 2 has 100 of c", "p at 7 3 has 109 of d", "p at 7 4 has 119 of e",
                "p at 7 5 has 218"};
            Due.same("slip", Due.slip(x, 0), "p at 7 0 has 0 of a");
            for (int h = 0; h < 5; h++) {
                x.bury(h);
                x.go(0, 1);
                Due.same("slip", Due.slip(x, 0), due[h]);
            }
            Due.same("slip", Due.slip(x, 1), "abcdefg at 0 7 has 0");
            Due.same("slip", Due.slip(x, 2), "zzzzzzz at 7 7 has 0");
            ShadowHeirs nine = Due.made("house a 0 0 9 9;house b 0 1 9 1;person p 1 0;sun east 1;");
            nine.bury(0);
            Due.same("9", Due.slip(nine, 0), "p at 1 0 has 9");
            nine.go(0, 1);
            nine.bury(1);
            Due.same("10", Due.slip(nine, 0), "p at 1 1 has 10");
        });
        terms("' of ' and the NAME of the first HOUSE, not buried, whose SHADOW touches him now, if there is one.", () -> {
            ShadowHeirs x = Due.made("house far 4 0 9 0;house mid 1 0 7 0;house qwertyu 0 0 9 0;person p 2 0;person q 2 4;"
                + "sun east 1;sun west 1;sun north 1;");
            Due.same("slip", Due.slip(x, 0), "p at 2 0 has 0 of mid");
            x.bury(1);
            Due.same("slip", Due.slip(x, 0), "p at 2 0 has 0 of qwertyu");
            x.bury(2);
            Due.same("all that do are buried", Due.slip(x, 0), "p at 2 0 has 0");
            x.hours(1);
            Due.same("slip", Due.slip(x, 0), "p at 2 0 has 0 of far");
            x.hours(1);
            Due.same("none does", Due.slip(x, 0), "p at 2 0 has 0");
            Due.same("none ever does", Due.slip(x, 1), "q at 2 4 has 0");
            ShadowHeirs most = Due.made("ground 8 8;house zyxwvut 0 0 9 99;house a 0 1 9 99;person abcdefg 7 1;sun east 1;");
            most.bury(1);
            most.go(0, 3);
            Due.same("slip", Due.slip(most, 0), "abcdefg at 7 0 has 99 of zyxwvut");
        });
        says(28, "SLIP of a PERSON: how many bytes;", () -> {
            ShadowHeirs x = Due.made(FULL);
            Due.same("p at 1 0 has 0 of a", x.slip(0), 19);
            Due.same("u at 5 5 has 0", x.slip(5), 14);
            x.bury(0);
            Due.same("p at 1 0 has 4", x.slip(0), 14);
        });
        says(28, "NONE: no such one.", () -> {
            ShadowHeirs x = Due.made(FULL);
            x.slip(0);
            for (int p : new int[] {-1, 6, LEAST, MOST}) {
                Due.same("PERSON " + p, x.slip(p), -1);
                Due.same("the latest SLIP stays", x.byteAt(0), 'p');
                Due.same("its last byte, too", x.byteAt(18), 'a');
            }
            Due.same("nobody", new ShadowHeirs().slip(0), -1);
        });
        says(29, "Byte i of the latest SLIP;", () -> {
            ShadowHeirs x = Due.made(FULL);
            x.slip(0);
            String due = "p at 1 0 has 0 of a";
            for (int i = 0; i < due.length(); i++) {
                Due.same("byte " + i, x.byteAt(i), due.charAt(i));
            }
            x.go(0, 1);
            Due.same("it stays", x.byteAt(5), '1');
            Due.island(x, "");
            Due.same("it stays for a new ISLAND", x.byteAt(0), 'p');
        });
        says(29, "NONE: none such.", () -> {
            ShadowHeirs x = Due.made(FULL);
            Due.same("ahead of any", x.byteAt(0), -1);
            x.slip(0);
            for (int i : new int[] {-1, 19, 20, LEAST, MOST}) {
                Due.same("byte " + i, x.byteAt(i), -1);
            }
            x.slip(5);
            Due.same("a shorter one", x.byteAt(13), '0');
            Due.same("the end of the longer one is gone", x.byteAt(14), -1);
        });
    }
}
