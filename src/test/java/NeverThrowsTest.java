import java.util.NoSuchElementException;
import java.util.Random;

/**
 * Random calls with any arguments in any state: nothing is thrown but what the document names. The objects are used for
 * more than 512 calls on purpose: what later calls answer is free, but none may throw by itself.
 */
public final class NeverThrowsTest {
    private static final int[] EDGES = {-1000, -2, -1, 0, 1, 2, 3, 4, 5, 6, 7, 8, 9, 19, 20, 30, 31, 60, 61, 64, 399,
        400, 401, 940, Integer.MAX_VALUE, Integer.MIN_VALUE};
    private static final String[] PIECES = {"ground", "stones", "house", "person", "sun", "east", "south", "west",
        "north", "lay", "tear", "bury", "hour", "or", "and", "not", "shaded", "poor", "heir", "of", "wealth", "x", "y",
        "number", ";", "<", "=", ">", "(", ")", "0", "1", "2", "3", "4", "7", "8", "9", "10", "99", "100", "ann", "bob",
        "hall", "hut", "\n", "A", ".", "abcdefgh", "1234", "a1"};

    private final Random random;
    private ShadowHeirs x = new ShadowHeirs();

    private NeverThrowsTest(long seed) {
        random = new Random(seed);
    }

    private int any() {
        switch (random.nextInt(4)) {
            case 0:
                return EDGES[random.nextInt(EDGES.length)];
            case 1:
                return random.nextInt();
            default:
                return random.nextInt(6);
        }
    }

    private String goodIsland() {
        return "ground " + (4 + random.nextInt(5)) + " 8;house hall " + random.nextInt(4) + " 0 9 90;stones 2 2 "
            + (1 + random.nextInt(9)) + ";house hut 3 3 " + (1 + random.nextInt(9)) + " 7;person ann 0 1;person bob "
            + random.nextInt(4) + " 7;sun " + PIECES[5 + random.nextInt(4)] + " 1;sun " + PIECES[5 + random.nextInt(4)]
            + " " + (1 + random.nextInt(9)) + ";";
    }

    private String pieces() {
        StringBuilder text = new StringBuilder();
        int n = random.nextInt(random.nextBoolean() ? 12 : 150);
        for (int i = 0; i < n; i++) {
            text.append(PIECES[random.nextInt(PIECES.length)]).append(random.nextInt(8) == 0 ? "" : " ");
        }
        return text.length() > 940 ? text.substring(0, 940) : text.toString();
    }

    /** A good text with some bytes changed. */
    private String spoilt(String text) {
        StringBuilder spoilt = new StringBuilder(text);
        for (int i = random.nextInt(4); i > 0 && spoilt.length() > 0; i--) {
            spoilt.setCharAt(random.nextInt(spoilt.length()), (char) random.nextInt(256));
        }
        return spoilt.toString();
    }

    private void putText() {
        switch (random.nextInt(5)) {
            case 0:
                Due.tape(x, goodIsland());
                break;
            case 1:
                Due.tape(x, spoilt(goodIsland()));
                break;
            case 2:
                Due.tape(x, spoilt("ann east;bob north;lay 3 1;tear 2 2;bury hall;hour 9;hour 60;ann west;lay 7 7;"));
                break;
            case 3:
                Due.tape(x, spoilt("not (shaded and of hut or wealth > 9) or x = 1 and not not (y < 7 or number = 0)"));
                break;
            default:
                Due.tape(x, pieces());
                break;
        }
    }

    private void call(int which) {
        switch (which) {
            case 0: x.feed(any(), any(), any(), any(), any()); break;
            case 1: x.end(any()); break;
            case 2: x.island(); break;
            case 3: x.fault(); break;
            case 4: x.cell(any(), any(), any()); break;
            case 5: x.house(any(), any()); break;
            case 6: x.person(any(), any()); break;
            case 7: x.now(any()); break;
            case 8: x.go(any(), any()); break;
            case 9: x.lay(any(), any()); break;
            case 10: x.tear(any(), any()); break;
            case 11: x.bury(any()); break;
            case 12: x.hours(any()); break;
            case 13: x.undo(); break;
            case 14: x.shadow(any(), any()); break;
            case 15: x.heirs(any(), any()); break;
            case 16: x.share(any(), any(), any(), any()); break;
            case 17: x.best(any(), any()); break;
            case 18: x.spare(any(), any(), any()); break;
            case 19: x.spareAt(); break;
            case 20: x.crowd(any(), any(), any()); break;
            case 21: x.near(any(), any(), any()); break;
            case 22: x.when(); break;
            case 23: x.ask(); break;
            case 24: x.longest(); break;
            case 25: x.longestAt(any()); break;
            case 26: x.slip(any()); break;
            case 27: x.byteAt(any()); break;
            case 28: x.drawn(any(), any()); break;
            case 29: x.odds(any(), any(), any()); break;
            case 30: x.book(random.nextInt(3)); break;
            case 31: x.told(any()); break;
            case 32: x.sentence(); break;
            case 33: x.said(any()); break;
            case 34: x.image(any()); break;
            case 35: x.restore(any()); break;
            default: x.count(any()); break;
        }
    }

    private void run() {
        boolean mayThrow;
        for (int i = 0; i < 512; i++) {
            if (random.nextInt(4) == 0) {
                putText();
            }
            int which = random.nextInt(37);
            if (random.nextInt(12) == 0) {
                which = new int[] {2, 22, 30, 32}[random.nextInt(4)];
            }
            mayThrow = which == 5 || which == 6 || which == 16;
            try {
                call(which);
            } catch (NoSuchElementException e) {
                Due.yes("call " + which + " may throw", mayThrow);
            }
            Due.yes("call " + which + " has ended", true);
        }
    }

    public static void main(String[] args) {
        for (int seed = 0; seed < 1500; seed++) {
            new NeverThrowsTest(seed).run();
        }
        Due.finish("NeverThrowsTest");
    }
}
