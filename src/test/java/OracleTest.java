import java.util.Random;

/** Random ISLANDS whose reckonings are reckoned again here, in another and plainer way. */
public final class OracleTest {
    private static final int[] DX = {1, 0, -1, 0};
    private static final int[] DY = {0, 1, 0, -1};
    private static final String[] SIDES = {"east", "south", "west", "north"};

    private final Random random;
    private int wide;
    private int high;
    private int houses;
    private int persons;
    private int suns;
    private int[] side;
    private int[] drop;
    private ShadowHeirs x;

    private OracleTest(long seed) {
        random = new Random(seed);
    }

    private String text() {
        wide = 2 + random.nextInt(7);
        high = 2 + random.nextInt(7);
        houses = random.nextInt(6);
        persons = random.nextInt(7);
        suns = random.nextInt(9);
        side = new int[suns];
        drop = new int[suns];
        StringBuilder text = new StringBuilder("ground " + wide + " " + high + ";");
        boolean[][] taken = new boolean[wide][high];
        int made = 0;
        for (int i = 0; i < houses; i++) {
            int cx = random.nextInt(wide);
            int cy = random.nextInt(high);
            if (!taken[cx][cy]) {
                taken[cx][cy] = true;
                text.append("house h").append("abcdefg".charAt(made++)).append(' ').append(cx).append(' ').append(cy);
                text.append(' ').append(1 + random.nextInt(9)).append(' ').append(random.nextInt(100)).append(';');
            }
        }
        houses = made;
        int stones = random.nextInt(wide * high / 2 + 1);
        for (int i = 0; i < stones && text.length() < 600; i++) {
            int cx = random.nextInt(wide);
            int cy = random.nextInt(high);
            if (!taken[cx][cy]) {
                taken[cx][cy] = true;
                int n = 1 + random.nextInt(random.nextBoolean() ? 2 : 9);
                text.append("stones ").append(cx).append(' ').append(cy).append(' ').append(n).append(';');
            }
        }
        made = 0;
        for (int i = 0; i < persons; i++) {
            int cx = random.nextInt(wide);
            int cy = random.nextInt(high);
            if (!taken[cx][cy]) {
                text.append("person p").append("abcdefg".charAt(made++));
                text.append(' ').append(cx).append(' ').append(cy).append(';');
            }
        }
        persons = made;
        for (int i = 0; i < suns; i++) {
            side[i] = random.nextInt(4);
            drop[i] = 1 + random.nextInt(random.nextBoolean() ? 2 : 9);
            text.append("sun ").append(SIDES[side[i]]).append(' ').append(drop[i]).append(";\n");
        }
        return text.toString();
    }

    /** The cells a SHADOW touches, cell by cell. */
    private boolean[][] touched(int h, int hour) {
        boolean[][] cells = new boolean[wide][high];
        if (hour < 0) {
            return cells;
        }
        int cx = x.house(h, 0) + DX[side[hour]];
        int cy = x.house(h, 1) + DY[side[hour]];
        int shade = x.house(h, 2) - drop[hour];
        while (cx >= 0 && cx < wide && cy >= 0 && cy < high && shade > x.cell(cx, cy, 0)) {
            cells[cx][cy] = true;
            cx += DX[side[hour]];
            cy += DY[side[hour]];
            shade -= drop[hour];
        }
        return cells;
    }

    private int heirs(boolean[][] cells) {
        int bits = 0;
        for (int p = 0; p < persons; p++) {
            if (cells[x.person(p, 0)][x.person(p, 1)]) {
                bits |= 1 << p;
            }
        }
        return bits;
    }

    private static int size(boolean[][] cells) {
        int n = 0;
        for (boolean[] row : cells) {
            for (boolean one : row) {
                n += one ? 1 : 0;
            }
        }
        return n;
    }

    private int[][] steps(int p) {
        int[][] far = new int[wide][high];
        for (int[] row : far) {
            java.util.Arrays.fill(row, 9999);
        }
        far[x.person(p, 0)][x.person(p, 1)] = 0;
        for (int round = 0; round < 64; round++) {
            for (int cx = 0; cx < wide; cx++) {
                for (int cy = 0; cy < high; cy++) {
                    for (int s = 0; s < 4 && x.cell(cx, cy, 0) == 0; s++) {
                        int ox = cx + DX[s];
                        int oy = cy + DY[s];
                        if (ox >= 0 && ox < wide && oy >= 0 && oy < high) {
                            far[cx][cy] = Math.min(far[cx][cy], far[ox][oy] + 1);
                        }
                    }
                }
            }
        }
        return far;
    }

    private int mostPlaced(int p, boolean[][][] can, boolean[][] free) {
        if (p == persons) {
            return 0;
        }
        int most = mostPlaced(p + 1, can, free);
        for (int cx = 0; cx < wide; cx++) {
            for (int cy = 0; cy < high; cy++) {
                if (can[p][cx][cy] && free[cx][cy]) {
                    free[cx][cy] = false;
                    most = Math.max(most, 1 + mostPlaced(p + 1, can, free));
                    free[cx][cy] = true;
                }
            }
        }
        return most;
    }

    private void walks(int h, int hour, boolean[][] cells) {
        int k = random.nextInt(random.nextBoolean() ? 5 : 31);
        boolean[][][] can = new boolean[persons][wide][high];
        for (int p = 0; p < persons; p++) {
            int[][] far = steps(p);
            int nearest = 9999;
            for (int cx = 0; cx < wide; cx++) {
                for (int cy = 0; cy < high; cy++) {
                    if (cells[cx][cy]) {
                        nearest = Math.min(nearest, far[cx][cy]);
                        can[p][cx][cy] = far[cx][cy] <= k;
                    }
                }
            }
            Due.same("near", x.near(p, h, hour), nearest == 9999 ? -1 : nearest);
        }
        boolean[][] free = new boolean[wide][high];
        for (boolean[] row : free) {
            java.util.Arrays.fill(row, true);
        }
        Due.same("crowd", x.crowd(h, hour, k), mostPlaced(0, can, free));
    }

    /** Lays stones cell by cell, one by one, until he is spared, and tears them off again. */
    private void spares(int p, int h, int hour) {
        int fewest = 99;
        int at = -1;
        int nearest = 99;
        if ((x.heirs(h, hour) >> p & 1) == 0) {
            Due.same("spare", x.spare(p, h, hour), 0);
            return;
        }
        for (int cx = 0; cx < wide; cx++) {
            for (int cy = 0; cy < high; cy++) {
                int laid = 0;
                while ((x.heirs(h, hour) >> p & 1) == 1 && x.lay(cx, cy) == 0) {
                    laid++;
                }
                int far = Math.abs(cx - x.house(h, 0)) + Math.abs(cy - x.house(h, 1));
                boolean isSpared = (x.heirs(h, hour) >> p & 1) == 0;
                if (isSpared && (laid < fewest || laid == fewest && far < nearest)) {
                    fewest = laid;
                    at = 8 * cy + cx;
                    nearest = far;
                }
                for (int i = 0; i < laid; i++) {
                    x.tear(cx, cy);
                }
            }
        }
        int before = x.spareAt();
        Due.same("spare", x.spare(p, h, hour), at == -1 ? -1 : fewest);
        Due.same("spareAt", x.spareAt(), at == -1 ? before : at);
    }

    private void whens(int h) {
        int n = 1 + random.nextInt(6);
        int[] bytes = new int[1 + 2 * n];
        bytes[0] = h;
        int like = random.nextInt(suns);
        for (int i = 0; i < n; i++) {
            int p = random.nextInt(persons);
            bytes[1 + 2 * i] = p;
            bytes[2 + 2 * i] = random.nextInt(8) == 0 ? random.nextInt(2) : x.heirs(h, like) >> p & 1;
        }
        int hours = 0;
        for (int hour = 0; hour < suns; hour++) {
            boolean isSo = true;
            for (int i = 0; i < n; i++) {
                boolean isTouched = touched(h, hour)[x.person(bytes[1 + 2 * i], 0)][x.person(bytes[1 + 2 * i], 1)];
                isSo &= isTouched == (bytes[2 + 2 * i] == 1);
            }
            hours |= isSo ? 1 << hour : 0;
        }
        int want = x.ask();
        int least = 99;
        for (int p = 0; p < persons && hours > 0; p++) {
            int with = 0;
            int without = 0;
            for (int hour = 0; hour < suns; hour++) {
                if ((hours >> hour & 1) == 1) {
                    if ((x.heirs(h, hour) >> p & 1) == 1) {
                        with++;
                    } else {
                        without++;
                    }
                }
            }
            if (Math.max(with, without) < least) {
                least = Math.max(with, without);
                want = p;
            }
        }
        Due.tape(x, bytes);
        Due.same("when", x.when(), hours);
        Due.same("ask", x.ask(), want);
    }

    private void houseByHouse() {
        int longest = 0;
        int longestHouse = x.longestAt(0);
        int longestHour = x.longestAt(1);
        for (int h = 0; h < houses; h++) {
            double[] best = new double[persons];
            int[] bestHour = new int[persons];
            java.util.Arrays.fill(bestHour, -1);
            for (int hour = 0; hour < suns; hour++) {
                boolean[][] cells = touched(h, hour);
                int bits = heirs(cells);
                Due.same("shadow", x.shadow(h, hour), size(cells));
                Due.same("heirs", x.heirs(h, hour), bits);
                if (size(cells) > longest) {
                    longest = size(cells);
                    longestHouse = h;
                    longestHour = hour;
                }
                for (int p = 0; p < persons; p++) {
                    boolean gets = (bits >> p & 1) == 1;
                    double part = gets ? 1.0 / Integer.bitCount(bits) : 0;
                    Due.same("share above", x.share(p, h, hour, 0), gets ? 1 : 0);
                    Due.same("share below", x.share(p, h, hour, 1), gets ? Integer.bitCount(bits) : 1);
                    if (part > best[p]) {
                        best[p] = part;
                        bestHour[p] = hour;
                    }
                }
                walks(h, hour, cells);
            }
            for (int p = 0; p < persons; p++) {
                Due.same("best", x.best(p, h), bestHour[p]);
                if (suns > 0) {
                    spares(p, h, random.nextInt(suns));
                    whens(h);
                }
            }
        }
        Due.same("longest", x.longest(), longest);
        Due.same("longestAt 0", x.longestAt(0), longestHouse);
        Due.same("longestAt 1", x.longestAt(1), longestHour);
    }

    private void asOfNow() {
        int hour = suns == 0 ? -1 : x.now(0) % suns;
        Due.same("hour of now", x.now(1), hour);
        int[][] on = new int[wide][high];
        for (int h = 0; h < houses; h++) {
            boolean[][] cells = touched(h, hour);
            Due.same("house 5", x.house(h, 5), heirs(cells));
            for (int cx = 0; cx < wide; cx++) {
                for (int cy = 0; cy < high; cy++) {
                    on[cx][cy] |= cells[cx][cy] ? 1 << h : 0;
                }
            }
        }
        for (int cx = 0; cx < wide; cx++) {
            for (int cy = 0; cy < high; cy++) {
                Due.same("cell 3", x.cell(cx, cy, 3), on[cx][cy]);
            }
        }
        StringBuilder all = new StringBuilder();
        for (int p = 0; p < persons; p++) {
            int touching = on[x.person(p, 0)][x.person(p, 1)];
            Due.same("person 3", x.person(p, 3), touching);
            String slip = "p" + "abcdefg".charAt(p) + " at " + x.person(p, 0) + " " + x.person(p, 1) + " has "
                + x.person(p, 2);
            int open = touching & ~x.now(2);
            if (open != 0) {
                slip += " of h" + "abcdefg".charAt(Integer.numberOfTrailingZeros(open));
                all.append(p).append(' ');
            }
            Due.same("slip", Due.slip(x, p), slip);
        }
        Due.sentence(x, "shaded");
        StringBuilder said = new StringBuilder();
        for (int k = 0; k < x.said(-1); k++) {
            said.append(x.said(k)).append(' ');
        }
        Due.same("shaded", said.toString(), all.toString());
    }

    private void goodsAreNeverLost() {
        int all = x.now(4) + x.now(5);
        for (int h = 0; h < houses; h++) {
            all += x.house(h, 3);
        }
        x.drawn(60, random.nextInt());
        int then = x.now(4) + x.now(5);
        for (int h = 0; h < houses; h++) {
            then += x.house(h, 3);
        }
        Due.same("goods in all", then, all);
    }

    private void round() {
        x = Due.made(text());
        for (int i = 0; i < 3; i++) {
            houseByHouse();
            asOfNow();
            goodsAreNeverLost();
            x.hours(1 + random.nextInt(20));
        }
        asOfNow();
    }

    public static void main(String[] args) {
        for (int seed = 0; seed < 300; seed++) {
            new OracleTest(seed).round();
        }
        Due.finish("OracleTest");
    }
}
