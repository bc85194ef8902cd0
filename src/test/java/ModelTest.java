import java.util.NoSuchElementException;
import java.util.Random;

/** Runs of at most 512 calls on a new object, each held against the model of the document. */
public final class ModelTest {
    private static final int MOST_CALLS = 512;
    private static final int THROWN = -77777;
    private static final int[] EDGES = {-1000, -2, -1, 0, 1, 2, 3, 4, 5, 6, 7, 8, 9, 10, 19, 20, 29, 30, 31, 59, 60, 61,
        399, 400, 901, 920, 940, 941, Integer.MAX_VALUE, Integer.MIN_VALUE};
    private static final String[] SIDES = {"east", "south", "west", "north"};
    private static final String[] NAMES = {"ann", "bob", "cid", "dot", "eve", "fay", "gus", "hall", "hut", "mill", "barn",
        "kirk", "inn"};
    private static final int HOUSES = 7;
    private static final String[] ODD = {"ground", "stones", "house", "person", "sun", "east", "lay", "tear", "bury",
        "hour", "or", "and", "not", "poor", "of", "x", "number", ";", "<", "=", ">", "(", ")", "0", "9", "10", "100", "1000",
        "a1", "1a", "abcdefg", "abcdefgh", "zed", ".", "A", "\n", "  ", ";;"};

    private final Random random;
    private final ShadowHeirs x = new ShadowHeirs();
    private final Model model = new Model();
    private final StringBuilder log = new StringBuilder();
    private int calls = 0;
    private boolean isSame = true;

    private ModelTest(long seed) {
        random = new Random(seed);
    }

    private interface Call {
        int answer();
    }

    private static int answerOf(Call call) {
        try {
            return call.answer();
        } catch (NoSuchElementException e) {
            return THROWN;
        }
    }

    private void same(String name, Call got, Call want) {
        if (calls >= MOST_CALLS || !isSame) {
            return;
        }
        calls++;
        int answer = answerOf(got);
        int due = answerOf(want);
        log.append(name).append(" = ").append(due).append('\n');
        if (answer != due) {
            isSame = false;
            System.out.println(log);
        }
        Due.same(name, answer, due);
    }

    /** Mostly one of so many, at times any number. */
    private int one(int many) {
        int r = random.nextInt(24);
        if (r == 0) {
            return EDGES[random.nextInt(EDGES.length)];
        }
        return r == 1 || many == 0 ? random.nextInt(9) - 1 : random.nextInt(many);
    }

    private int house() {
        return one(model.count(2));
    }

    private int person() {
        return one(model.count(3));
    }

    private int hour() {
        return one(model.count(4));
    }

    private int n(int most) {
        return random.nextInt(10) == 0 ? EDGES[random.nextInt(EDGES.length)] : 1 + random.nextInt(most);
    }

    private String number(int low, int most) {
        int r = random.nextInt(40);
        int n = r == 0 ? most + 1 : r == 1 ? Math.max(low - 1, 0) : r == 2 ? most : r == 3 ? low
            : low + random.nextInt(most - low + 1);
        return random.nextInt(30) == 0 ? "0" + n : "" + n;
    }

    private String name(int first, int many) {
        return NAMES[random.nextInt(25) == 0 || many == 0 ? random.nextInt(NAMES.length) : first + random.nextInt(many)];
    }

    private String islandLine(int kind, int told, String spot) {
        switch (kind) {
            case 0:
                return "stones " + spot + " " + number(1, random.nextBoolean() ? 2 : 9) + ";";
            case 1:
                return "house " + NAMES[HOUSES + told % 6] + " " + spot + " " + number(3, 9) + " " + number(0, 99) + ";";
            case 2:
                return "person " + NAMES[told % 7] + " " + spot + ";";
            default:
                return "sun " + SIDES[random.nextInt(4)] + " " + (random.nextBoolean() ? "1" : number(1, 9)) + ";";
        }
    }

    private String islandText() {
        int wide = 2 + random.nextInt(7);
        int high = 2 + random.nextInt(7);
        boolean isGround = random.nextInt(5) > 0;
        StringBuilder text = new StringBuilder(isGround ? "ground " + wide + " " + high + ";" : "");
        wide = isGround ? wide : 5;
        high = isGround ? high : 5;
        int lines = random.nextInt(random.nextInt(6) == 0 ? 50 : 24);
        int[] told = new int[4];
        for (int i = 0; i < lines; i++) {
            int kind = random.nextInt(4);
            String spot = number(0, wide - 1) + " " + number(0, high - 1);
            text.append(islandLine(kind, random.nextInt(30) == 0 ? 0 : told[kind], spot));
            told[kind]++;
        }
        return text.toString();
    }

    /** Of random LINES those that go together: so most ISLANDS are good ones. */
    private String goodIslandText() {
        StringBuilder good = new StringBuilder();
        for (String line : islandText().split("(?<=;)")) {
            if (Due.island(new ShadowHeirs(), good + line) >= 0) {
                good.append(line);
            }
        }
        return good.toString();
    }

    private String bookText() {
        StringBuilder text = new StringBuilder();
        int lines = random.nextInt(random.nextInt(5) == 0 ? 50 : 12);
        for (int i = 0; i < lines; i++) {
            switch (random.nextInt(8)) {
                case 0: case 1: case 2:
                    text.append(random.nextInt(3) > 0 ? "lay " : "tear ").append(number(0, model.count(0) - 1)).append(' ')
                        .append(number(0, model.count(1) - 1));
                    break;
                case 3:
                    text.append("bury ").append(name(HOUSES, model.count(2)));
                    break;
                case 4:
                    text.append("hour ").append(number(1, random.nextBoolean() ? 3 : 60));
                    break;
                default:
                    text.append(name(0, model.count(3))).append(' ').append(SIDES[random.nextInt(4)]);
                    break;
            }
            text.append(random.nextInt(50) == 0 ? "" : ";");
        }
        return text.toString();
    }

    private String cond(int depth) {
        StringBuilder text = new StringBuilder(oneText(depth));
        int joints = random.nextInt(depth == 0 && random.nextInt(5) == 0 ? 24 : 3);
        for (int i = 0; i < joints; i++) {
            text.append(random.nextBoolean() ? " or " : " and ").append(oneText(depth));
        }
        return text.toString();
    }

    private String oneText(int depth) {
        String[] plain = {"shaded", "poor", "heir", "of " + name(HOUSES, model.count(2))};
        String[] subjects = {"wealth", "x", "y", "number"};
        int r = random.nextInt(12);
        if (r < 2 && depth < 10) {
            return "not " + oneText(depth + 1);
        }
        if (r < 4 && depth < 10) {
            return "(" + cond(depth + 1) + ")";
        }
        return r < 8 ? plain[random.nextInt(plain.length)]
            : subjects[random.nextInt(4)] + "<=>".charAt(random.nextInt(3)) + number(0, random.nextBoolean() ? 4 : 99);
    }

    private String spoilt(String text) {
        StringBuilder spoilt = new StringBuilder(text);
        for (int i = random.nextInt(3); i > 0; i--) {
            int at = random.nextInt(spoilt.length() + 1);
            switch (random.nextInt(4)) {
                case 0:
                    spoilt.insert(at, " " + ODD[random.nextInt(ODD.length)] + " ");
                    break;
                case 1:
                    spoilt.insert(at, ODD[random.nextInt(ODD.length)]);
                    break;
                case 2:
                    spoilt.delete(at, Math.min(spoilt.length(), at + 1 + random.nextInt(6)));
                    break;
                default:
                    spoilt.insert(at, (char) random.nextInt(256));
                    break;
            }
        }
        return spoilt.toString();
    }

    /** Blanks somewhere, so that the text ends about the most bytes that it may have. */
    private String stretched(String text, int most) {
        int blanks = most - text.length() + random.nextInt(12) - 6;
        int at = text.isEmpty() ? 0 : random.nextInt(4) == 0 ? random.nextInt(text.length()) : text.lastIndexOf(' ') + 1;
        return blanks <= 0 ? text : text.substring(0, at) + " ".repeat(blanks) + text.substring(at);
    }

    private void put(String told, int most) {
        String text = random.nextInt(4) == 0 ? spoilt(told) : told;
        text = random.nextInt(6) == 0 ? stretched(text, most) : text;
        put(text.length() > 940 ? text.substring(0, 940) : text);
    }

    private void put(String text) {
        if (random.nextInt(12) > 0) {
            same("end(0)", () -> x.end(0) ? 1 : 0, () -> model.end(0) ? 1 : 0);
        }
        int before = model.count(5);
        for (int i = 0; i < text.length(); i += 20) {
            int[] n = new int[5];
            for (int j = i; j < Math.min(i + 20, text.length()); j++) {
                n[(j - i) / 4] |= text.charAt(j) << 24 - j % 4 * 8;
            }
            same("feed", () -> x.feed(n[0], n[1], n[2], n[3], n[4]), () -> model.feed(n));
        }
        int size = before + text.length();
        same("end(" + size + ") of " + text, () -> x.end(size) ? 1 : 0, () -> model.end(size) ? 1 : 0);
    }

    /** Mostly as it would be at some hour. */
    private String whenText() {
        int h = house() & 255;
        int touched = Math.max(model.heirs(h, hour()), 0);
        StringBuilder bytes = new StringBuilder().append((char) h);
        for (int i = random.nextInt(random.nextInt(4) == 0 ? 8 : 3); i >= 0; i--) {
            int p = person() & 255;
            int is = random.nextInt(12) == 0 ? random.nextInt(3) : p < 6 ? touched >> p & 1 : 0;
            bytes.append((char) p).append((char) is);
        }
        return bytes + (random.nextInt(20) == 0 ? "a" : "");
    }

    private void texts() {
        switch (random.nextInt(7)) {
            case 0:
                put(random.nextInt(3) == 0 ? islandText() : goodIslandText(), 900);
                same("island", x::island, model::island);
                break;
            case 1: case 2:
                put(bookText(), 400);
                int lives = one(2);
                same("book(" + lives + ")", () -> x.book(lives), () -> model.book(lives));
                for (int what = -1; what <= 4; what++) {
                    int w = what;
                    same("told(" + w + ")", () -> x.told(w), () -> model.told(w));
                }
                break;
            case 3: case 4:
                put(cond(0), 200);
                same("sentence", x::sentence, model::sentence);
                for (int k = -1; k <= 3; k++) {
                    int at = k;
                    same("said(" + at + ")", () -> x.said(at), () -> model.said(at));
                }
                break;
            default:
                put(whenText());
                same("when", x::when, model::when);
                same("ask", x::ask, model::ask);
                break;
        }
        same("fault", x::fault, model::fault);
        same("count(5)", () -> x.count(5), () -> model.count(5));
    }

    private void acts() {
        int p = person();
        int h = house();
        int side = one(4);
        int cx = one(model.count(0));
        int cy = one(model.count(1));
        int n = n(random.nextInt(3) == 0 ? 3 : 60);
        int seed = random.nextInt(4) == 0 ? one(9) : random.nextInt();
        switch (random.nextInt(14)) {
            case 0: case 1: case 2: case 3:
                same("go " + p + " " + side, () -> x.go(p, side), () -> model.go(p, side));
                break;
            case 4: case 5: case 6:
                same("lay " + cx + " " + cy, () -> x.lay(cx, cy), () -> model.lay(cx, cy));
                break;
            case 7: case 8:
                same("tear " + cx + " " + cy, () -> x.tear(cx, cy), () -> model.tear(cx, cy));
                break;
            case 9:
                same("bury " + h, () -> x.bury(h), () -> model.bury(h));
                break;
            case 10:
                same("hours " + n, () -> x.hours(n), () -> model.hours(n));
                break;
            case 11:
                same("drawn " + n + " " + seed, () -> x.drawn(n, seed), () -> model.drawn(n, seed));
                break;
            default:
                same("undo", x::undo, model::undo);
                break;
        }
    }

    private void asked() {
        int h = house();
        int hour = hour();
        int touched = model.heirs(h, hour);
        int p = touched > 0 && random.nextBoolean() ? 31 - Integer.numberOfLeadingZeros(touched) : person();
        int what = random.nextInt(10) - 1;
        switch (random.nextInt(20)) {
            case 0: case 1: case 2:
                int cx = one(model.count(0));
                int cy = one(model.count(1));
                int of = one(4);
                same("cell " + cx + " " + cy + " " + of, () -> x.cell(cx, cy, of), () -> model.cell(cx, cy, of));
                break;
            case 3: case 4:
                same("house " + h + " " + what, () -> x.house(h, what), () -> model.house(h, what));
                break;
            case 5: case 6:
                same("person " + p + " " + what, () -> x.person(p, what), () -> model.person(p, what));
                break;
            case 7: case 8:
                same("now " + what, () -> x.now(what), () -> model.now(what));
                break;
            case 9:
                same("shadow " + h + " " + hour, () -> x.shadow(h, hour), () -> model.shadow(h, hour));
                same("heirs " + h + " " + hour, () -> x.heirs(h, hour), () -> model.heirs(h, hour));
                break;
            case 10:
                int d = one(2);
                same("share " + p + " " + h + " " + hour + " " + d, () -> x.share(p, h, hour, d),
                    () -> model.share(p, h, hour, d));
                break;
            case 11:
                same("best " + p + " " + h, () -> x.best(p, h), () -> model.best(p, h));
                break;
            case 12: case 13:
                same("spare " + p + " " + h + " " + hour, () -> x.spare(p, h, hour), () -> model.spare(p, h, hour));
                same("spareAt", x::spareAt, model::spareAt);
                break;
            case 14:
                int k = random.nextInt(random.nextBoolean() ? 6 : 33) - 1;
                same("crowd " + h + " " + hour + " " + k, () -> x.crowd(h, hour, k), () -> model.crowd(h, hour, k));
                break;
            case 15:
                same("near " + p + " " + h + " " + hour, () -> x.near(p, h, hour), () -> model.near(p, h, hour));
                break;
            case 16:
                same("longest", x::longest, model::longest);
                same("longestAt " + what, () -> x.longestAt(what), () -> model.longestAt(what));
                break;
            case 17:
                slips(p);
                break;
            case 18:
                int seed = random.nextInt();
                int n = n(30);
                same("odds " + p + " " + n + " " + seed, () -> x.odds(p, n, seed), () -> model.odds(p, n, seed));
                break;
            default:
                same("count " + what, () -> x.count(what), () -> model.count(what));
                break;
        }
    }

    private void slips(int p) {
        same("slip " + p, () -> x.slip(p), () -> model.slip(p));
        int many = random.nextInt(6) == 0 ? 35 : 2;
        for (int i = 0; i < many; i++) {
            int at = many == 35 ? i : random.nextInt(36) - 1;
            same("byteAt " + at, () -> x.byteAt(at), () -> model.byteAt(at));
        }
    }

    private void images() {
        int k = random.nextInt(4) - 1;
        if (random.nextBoolean()) {
            same("image " + k, () -> x.image(k) ? 1 : 0, () -> model.image(k) ? 1 : 0);
        } else {
            same("restore " + k, () -> x.restore(k) ? 1 : 0, () -> model.restore(k) ? 1 : 0);
        }
        same("said(-1)", () -> x.said(-1), () -> model.said(-1));
    }

    private void run() {
        for (int i = 0; i < 3 && model.count(2) * model.count(3) * model.count(4) == 0; i++) {
            put(goodIslandText(), 900);
            same("island", x::island, model::island);
        }
        for (int round = 0; round < 4 * MOST_CALLS && calls < MOST_CALLS && isSame; round++) {
            int r = random.nextInt(40);
            if (r < 3) {
                texts();
            } else if (r < 13) {
                acts();
            } else if (r < 39) {
                asked();
            } else {
                images();
            }
        }
    }

    public static void main(String[] args) {
        int runs = args.length > 0 ? Integer.parseInt(args[0]) : 1500;
        for (int seed = 0; seed < runs; seed++) {
            new ModelTest(seed).run();
        }
        Due.finish("ModelTest");
    }
}
