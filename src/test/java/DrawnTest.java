/** Promises 30 and 31: HOURS by draws and odds, each lived again here by the acts of the face. */
public final class DrawnTest {
    private static int x;
    private static int hoursLeft;

    private static int draw(int n) {
        x = x * 1103515245 + 12345;
        return (x >>> 8) % n;
    }

    private static int byActs(ShadowHeirs o, int n, int seed) {
        x = seed;
        int wide = o.count(0);
        int high = o.count(1);
        int houses = o.count(2);
        int persons = o.count(3);
        int gone = 0;
        boolean isOver = o.now(0) == 400;
        while (gone < n && !isOver) {
            for (int p = 0; p < persons; p++) {
                int act = draw(6);
                if (act < 4) {
                    o.go(p, act);
                } else if (act == 4) {
                    int cx = draw(wide);
                    int cy = draw(high);
                    o.lay(cx, cy);
                }
            }
            if (draw(10) == 0 && houses > 0) {
                o.bury(draw(houses));
            }
            o.hours(1);
            gone++;
            isOver = gone == hoursLeft;
        }
        return gone;
    }

    /** An object some HOURS ahead of the last one. */
    private static ShadowHeirs made(String text, int left) {
        ShadowHeirs o = Due.made(text);
        for (int n = 400 - left; n > 0; n -= 60) {
            o.hours(Math.min(n, 60));
        }
        hoursLeft = left;
        return o;
    }

    private static final String[] TEXTS = {
        "",
        "person p 2 2;sun east 1;",
        "house a 2 2 9 99;sun east 1;sun south 1;",
        "ground 8 8;house a 4 4 9 99;house b 2 2 9 50;house c 6 1 9 20;person p 1 1;person q 5 5;person r 3 4;"
            + "person s 0 0;person t 7 7;person u 4 3;sun east 1;sun south 1;sun west 1;sun north 1;",
        "ground 2 2;house a 0 0 9 99;person p 1 1;person q 1 1;sun east 1;sun south 1;",
        "ground 3 7;stones 1 1 9;stones 1 2 8;house a 0 0 3 5;house b 2 6 7 77;person p 0 3;person q 2 3;sun north 2;",
    };

    private static void drawnIsByActs() {
        int[] seeds = {0, 1, 2, 3, 77, 12345, -1, Integer.MAX_VALUE, Integer.MIN_VALUE};
        int[][] runs = {{1, 400}, {7, 399}, {40, 203}, {60, 20}, {60, 1}, {1, 1}, {2, 1}, {60, 0}};
        for (String text : TEXTS) {
            for (int seed : seeds) {
                for (int[] run : runs) {
                    ShadowHeirs acted = made(text, run[1]);
                    ShadowHeirs drawn = made(text, run[1]);
                    String before = Due.state(drawn);
                    int gone = drawn.drawn(run[0], seed);
                    Due.same("drawn " + run[0] + " of " + run[1], gone, byActs(acted, run[0], seed));
                    String after = Due.state(drawn);
                    Due.same("the state by " + seed + " on " + text, after, Due.state(acted));
                    if (gone > 0) {
                        drawn.undo();
                        Due.same("undone whole", Due.state(drawn), before);
                        drawn.drawn(run[0], seed);
                        Due.same("and drawn again", drawn.now(4) + 1000 * drawn.now(6) + 1000000 * drawn.now(7),
                            acted.now(4) + 1000 * acted.now(6) + 1000000 * acted.now(7));
                    }
                }
            }
            ShadowHeirs wrong = Due.made(text);
            Due.same("n 0", wrong.drawn(0, 1), -1);
            Due.same("n -1", wrong.drawn(-1, 1), -1);
            Due.same("n 61", wrong.drawn(61, 1), -1);
        }
    }

    private static void noneGoneIsNoAct() {
        ShadowHeirs o = Due.made(TEXTS[3]);
        for (int i = 0; i < 7; i++) {
            o.hours(60);
        }
        Due.same("over", o.drawn(5, 5), 0);
        Due.same("seven acts", o.undo(), 6);
        Due.same("the last was of 40", o.now(0), 360);
    }

    private static void oddsAreBySeeds() {
        int[] seeds = {0, 5, -3, Integer.MAX_VALUE - 3};
        int some = 0;
        for (String text : TEXTS) {
            for (int seed : seeds) {
                for (int n : new int[] {1, 2, 30}) {
                    for (int p = 0; p < Due.made(text).count(3); p++) {
                        ShadowHeirs o = Due.made(text);
                        o.hours(3);
                        int more = 0;
                        int has = o.person(p, 2);
                        for (int i = 0; i < n; i++) {
                            o.drawn(20, seed + i);
                            more += o.person(p, 2) > has ? 1 : 0;
                            o.undo();
                        }
                        String before = Due.state(o);
                        Due.same("odds", o.odds(p, n, seed), more);
                        Due.same("all stays", Due.state(o), before);
                        some += more;
                    }
                }
            }
        }
        Due.yes("somebody gets something", some > 20);
        ShadowHeirs o = Due.made(TEXTS[3]);
        Due.same("no such p", o.odds(6, 1, 1), -1);
        Due.same("no such p", o.odds(-1, 1, 1), -1);
        Due.same("n 0", o.odds(0, 0, 1), -1);
        Due.same("n 31", o.odds(0, 31, 1), -1);
        Due.same("no act", o.undo(), -1);
        for (int i = 0; i < 7; i++) {
            o.hours(60);
        }
        Due.same("all are over", o.odds(0, 30, 1), 0);
    }

    public static void main(String[] args) {
        drawnIsByActs();
        noneGoneIsNoAct();
        oddsAreBySeeds();
        Due.finish("DrawnTest");
    }
}
