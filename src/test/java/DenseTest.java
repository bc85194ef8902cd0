import java.util.ArrayList;
import java.util.Collections;
import java.util.List;
import java.util.Random;

/** Crowded ISLANDS on which all that can be reckoned is asked, and held against the model of the document. */
public final class DenseTest {
    private static final int MOST_CALLS = 512;
    private static final String[] SIDES = {"east", "south", "west", "north"};
    private static final String LETTERS = "abcdefghijklmn";

    private final Random random;
    private final ShadowHeirs x = new ShadowHeirs();
    private final Model model = new Model();
    private String text = "";
    private int calls = 0;

    private DenseTest(long seed) {
        random = new Random(seed);
    }

    private interface Question {
        int[] answers();
    }

    /** Most things stand in a few rows and columns, so that SHADOWS touch them. */
    private String islandText() {
        int wide = 2 + random.nextInt(7);
        int high = 2 + random.nextInt(7);
        StringBuilder all = new StringBuilder("ground " + wide + " " + high + ";");
        int[] kind = new int[64];
        int houses = 1 + random.nextInt(5);
        int persons = 1 + random.nextInt(6);
        int stones = random.nextInt(wide * high / 2 + 1);
        int row = random.nextInt(high);
        int column = random.nextInt(wide);
        for (int i = 0; i < houses + persons + stones; i++) {
            int cx = random.nextInt(3) == 0 ? column : random.nextInt(wide);
            int cy = random.nextInt(3) == 0 ? row : random.nextInt(high);
            boolean isHouse = i < houses;
            boolean isPerson = !isHouse && i < houses + persons;
            if (kind[8 * cy + cx] == 0 || isPerson && kind[8 * cy + cx] == 1) {
                kind[8 * cy + cx] = isPerson ? 1 : 2;
                String at = " " + cx + " " + cy;
                int n = 1 + random.nextInt(random.nextBoolean() ? 2 : 9);
                all.append(isHouse ? "house h" + LETTERS.charAt(i) + at + " " + (3 + random.nextInt(7)) + " "
                    + random.nextInt(100) : isPerson ? "person p" + LETTERS.charAt(i) + at : "stones" + at + " " + n);
                all.append(all.length() > 750 ? ";" : ";\n");
            }
        }
        for (int i = random.nextInt(9); i > 0; i--) {
            all.append("sun ").append(SIDES[random.nextInt(4)]).append(' ');
            all.append(random.nextBoolean() ? 1 : 1 + random.nextInt(9)).append(';');
        }
        return all.length() > 900 ? all.substring(0, 900).replaceAll(";[^;]*$", ";") : all.toString();
    }

    private void put(byte[] bytes) {
        for (int i = 0; i < bytes.length; i += 20) {
            int[] n = new int[5];
            for (int j = i; j < Math.min(i + 20, bytes.length); j++) {
                n[(j - i) / 4] |= (bytes[j] & 255) << 24 - j % 4 * 8;
            }
            model.feed(n);
            x.feed(n[0], n[1], n[2], n[3], n[4]);
            calls++;
        }
        model.end(bytes.length);
        x.end(bytes.length);
        calls++;
    }

    private List<Question> questions() {
        List<Question> all = new ArrayList<>();
        for (int h = 0; h < model.count(2); h++) {
            int house = h;
            for (int hour = 0; hour < model.count(4); hour++) {
                int at = hour;
                all.add(() -> new int[] {x.shadow(house, at), model.shadow(house, at)});
                all.add(() -> new int[] {x.heirs(house, at), model.heirs(house, at)});
                for (int k : new int[] {0, 1, 2, 3, 5, 30}) {
                    all.add(() -> new int[] {x.crowd(house, at, k), model.crowd(house, at, k)});
                }
                for (int p = 0; p < model.count(3); p++) {
                    int person = p;
                    all.add(() -> new int[] {x.share(person, house, at, 1), model.share(person, house, at, 1)});
                    all.add(() -> new int[] {x.spare(person, house, at), model.spare(person, house, at)});
                    all.add(() -> new int[] {x.near(person, house, at), model.near(person, house, at)});
                }
            }
            for (int p = 0; p < model.count(3); p++) {
                int person = p;
                all.add(() -> new int[] {x.best(person, house), model.best(person, house)});
            }
        }
        return all;
    }

    private void same(String what, int got, int want) {
        Due.same(what + " on " + text, got, want);
        calls++;
    }

    private void whens() {
        for (int i = 0; i < 3 && model.count(4) > 0; i++) {
            int h = random.nextInt(model.count(2));
            int touched = model.heirs(h, random.nextInt(model.count(4)));
            byte[] bytes = new byte[1 + 2 * (1 + random.nextInt(6))];
            bytes[0] = (byte) h;
            for (int j = 1; j < bytes.length; j += 2) {
                bytes[j] = (byte) random.nextInt(model.count(3));
                bytes[j + 1] = (byte) (touched >> bytes[j] & 1);
            }
            put(bytes);
            same("when", x.when(), model.when());
            same("ask", x.ask(), model.ask());
        }
    }

    private void run() {
        text = islandText();
        put(text.getBytes(java.nio.charset.StandardCharsets.US_ASCII));
        same("island", x.island(), model.island());
        for (int i = random.nextInt(3); i > 0; i--) {
            int seed = random.nextInt();
            same("drawn", x.drawn(5, seed), model.drawn(5, seed));
        }
        if (model.count(2) > 0 && model.count(3) > 0) {
            whens();
        }
        same("longest", x.longest(), model.longest());
        same("longestAt", x.longestAt(0), model.longestAt(0));
        same("longestAt", x.longestAt(1), model.longestAt(1));
        List<Question> all = questions();
        Collections.shuffle(all, random);
        for (int i = 0; i < all.size() && calls < MOST_CALLS - 1; i++) {
            int[] answers = all.get(i).answers();
            same("question " + i, answers[0], answers[1]);
            same("spareAt", x.spareAt(), model.spareAt());
        }
    }

    public static void main(String[] args) {
        int runs = args.length > 0 ? Integer.parseInt(args[0]) : 400;
        for (int seed = 0; seed < runs; seed++) {
            new DenseTest(seed).run();
        }
        Due.finish("DenseTest");
    }
}
