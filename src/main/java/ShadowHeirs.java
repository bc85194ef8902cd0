import java.util.NoSuchElementException;

/**
 * A stony island on which goods are left to whom the shadow of a house touches.
 *
 * A cell has the number 8 by Y and X, here called its spot, however wide the ground is.
 */
public final class ShadowHeirs {
    public static final int NONE = -1;

    private static final int MOST_HOUSES = 5;
    private static final int MOST_PERSONS = 6;
    private static final int MOST_SUNS = 8;
    private static final int MOST_HIGH = 9;
    private static final int MOST_GOODS = 99;
    private static final int ROW = 8;
    private static final int SPOTS = 64;
    private static final int SIDES = 4;
    private static final int LAST_HOUR = 400;
    private static final int MOST_HOURS = 60;
    private static final int MOST_STEPS = 30;
    private static final int MOST_SEEDS = 30;
    private static final int ODDS_HOURS = 20;
    private static final int IMAGES = 2;
    private static final int FED = 20;
    private static final int OTHER_LIVES = -1000;

    private static final int CANT_COME = 1;
    private static final int WRONG_NUMBER = 2;
    private static final int WRONG_NAME_OR_CELL = 3;
    private static final int ONE_TOO_MANY = 4;

    private final Reader reader = new Reader();
    private final Plan plan = new Plan();
    private final Scene scene = new Scene();
    private final Sentence sentenceNow = new Sentence();
    private final Island live = new Island(plan, scene, sentenceNow);
    private final Island trial = new Island(plan, new Scene(), sentenceNow);
    private final IslandText islandText = new IslandText(reader);
    private final Book bookRead = new Book(reader);
    private final Sentence sentenceRead = new Sentence();
    private final History history = new History();
    private final Island[] images = new Island[IMAGES];
    private final boolean[] isImageKept = new boolean[IMAGES];
    private final Walk walk = new Walk(live);
    private final Draws draws = new Draws();
    private final Slip latestSlip = new Slip();
    private int latestFault = 0;
    private int spareSpot = NONE;
    private int askPerson = NONE;
    private int longestHouse = NONE;
    private int longestHour = NONE;

    public ShadowHeirs() {
        for (int k = 0; k < images.length; k++) {
            images[k] = new Island(new Plan(), new Scene(), new Sentence());
        }
    }

    public int feed(int a, int b, int c, int d, int e) {
        if (!reader.hasRoom(FED)) {
            return NONE;
        }
        reader.addNumber(a);
        reader.addNumber(b);
        reader.addNumber(c);
        reader.addNumber(d);
        reader.addNumber(e);
        return reader.size;
    }

    public boolean end(int n) {
        if (n < 0 || n > reader.size) {
            return false;
        }
        reader.size = n;
        return true;
    }

    public int island() {
        int lines = islandText.readLines();
        if (closeTape()) {
            return -1 - reader.faultPlace;
        }
        live.copyFrom(islandText.draft);
        history.clear();
        return lines;
    }

    public int fault() {
        return latestFault;
    }

    public int cell(int x, int y, int what) {
        if (!plan.hasCell(x, y)) {
            return NONE;
        }
        int spot = ROW * y + x;
        switch (what) {
            case 0:
                return live.heightAt(spot);
            case 1:
                return plan.houseOn(spot);
            case 2:
                return live.personsOn(spot);
            case 3:
                return live.housesTouching(spot);
            default:
                return NONE;
        }
    }

    public int house(int h, int what) throws NoSuchElementException {
        if (!plan.hasHouse(h) || what < 0 || what > 5) {
            throw new NoSuchElementException("no such house, or nothing such is told of it");
        }
        switch (what) {
            case 0:
                return plan.houseSpot[h] % ROW;
            case 1:
                return plan.houseSpot[h] / ROW;
            case 2:
                return plan.houseHigh[h];
            case 3:
                return scene.goods[h];
            case 4:
                return scene.isBuried(h) ? 1 : 0;
            default:
                return live.personsTouched(h, live.tableHour());
        }
    }

    public int person(int p, int what) throws NoSuchElementException {
        if (!plan.hasPerson(p) || what < 0 || what > 4) {
            throw new NoSuchElementException("no such person, or nothing such is told of him");
        }
        switch (what) {
            case 0:
                return scene.standsAt[p] % ROW;
            case 1:
                return scene.standsAt[p] / ROW;
            case 2:
                return scene.wealth[p];
            case 3:
                return live.housesTouching(scene.standsAt[p]);
            default:
                return live.sidesOpen(p);
        }
    }

    public int now(int what) {
        switch (what) {
            case 0:
                return scene.hour;
            case 1:
                return live.tableHour();
            case 2:
                return scene.buried;
            case 3:
                return scene.allStones();
            case 4:
                return scene.allWealth();
            case 5:
                return scene.sea;
            case 6:
                return scene.steps;
            case 7:
                return scene.laid;
            default:
                return NONE;
        }
    }

    public int go(int p, int side) {
        if (!plan.hasPerson(p) || side < 0 || side >= SIDES) {
            return NONE;
        }
        int why = live.whyNotStep(p, side);
        if (why == 0) {
            history.keep(scene);
            live.makeStep(p, side);
        }
        return why;
    }

    public int lay(int x, int y) {
        if (!plan.hasCell(x, y)) {
            return NONE;
        }
        int spot = ROW * y + x;
        int why = live.whyNotLay(spot);
        if (why == 0) {
            history.keep(scene);
            live.layStone(spot);
        }
        return why;
    }

    public int tear(int x, int y) {
        if (!plan.hasCell(x, y)) {
            return NONE;
        }
        int spot = ROW * y + x;
        int why = live.whyNotTear(spot);
        if (why == 0) {
            history.keep(scene);
            live.tearStone(spot);
        }
        return why;
    }

    public int bury(int h) {
        if (!plan.hasHouse(h)) {
            return NONE;
        }
        int why = live.whyNotBury(h);
        if (why == 0) {
            history.keep(scene);
            live.buryHouse(h);
        }
        return why;
    }

    public int hours(int n) {
        if (n < 1 || n > MOST_HOURS) {
            return NONE;
        }
        int gone = Math.min(n, LAST_HOUR - scene.hour);
        if (gone > 0) {
            history.keep(scene);
            scene.hour += gone;
        }
        return gone;
    }

    public int undo() {
        if (!history.bringBack(scene)) {
            return NONE;
        }
        return history.size;
    }

    public int shadow(int h, int hour) {
        if (!plan.hasShadow(h, hour)) {
            return NONE;
        }
        return live.reach(h, hour);
    }

    public int heirs(int h, int hour) {
        if (!plan.hasShadow(h, hour)) {
            return NONE;
        }
        return live.personsTouched(h, hour);
    }

    public int share(int p, int h, int hour, int what) throws NoSuchElementException {
        if (!plan.hasPerson(p) || !plan.hasShadow(h, hour) || what < 0 || what > 1) {
            throw new NoSuchElementException("no such share");
        }
        int parts = live.partsWith(p, h, hour);
        if (what == 0) {
            return parts == 0 ? 0 : 1;
        }
        return parts == 0 ? 1 : parts;
    }

    public int best(int p, int h) {
        if (!plan.hasPerson(p) || !plan.hasHouse(h)) {
            return NONE;
        }
        int bestHour = NONE;
        int fewest = MOST_PERSONS + 1;
        for (int hour = 0; hour < plan.suns; hour++) {
            int parts = live.partsWith(p, h, hour);
            if (parts > 0 && parts < fewest) {
                fewest = parts;
                bestHour = hour;
            }
        }
        return bestHour;
    }

    public int spare(int p, int h, int hour) {
        if (!plan.hasPerson(p) || !plan.hasShadow(h, hour)) {
            return NONE;
        }
        int along = plan.stepsAlong(h, hour, scene.standsAt[p]);
        if (along < 1 || along > live.reach(h, hour)) {
            return 0;
        }
        int spot = live.spotThatSpares(h, hour, along);
        if (spot == NONE) {
            return NONE;
        }
        spareSpot = spot;
        return live.stonesToStop(h, hour, spot);
    }

    public int spareAt() {
        return spareSpot;
    }

    public int crowd(int h, int hour, int k) {
        if (!plan.hasShadow(h, hour) || k < 0 || k > MOST_STEPS) {
            return NONE;
        }
        return walk.mostInShadow(h, hour, k);
    }

    public int near(int p, int h, int hour) {
        if (!plan.hasPerson(p) || !plan.hasShadow(h, hour)) {
            return NONE;
        }
        return walk.stepsIntoShadow(p, h, hour);
    }

    public int when() {
        int hours = hoursByTape();
        if (hours > 0) {
            askPerson = bestToAsk(reader.byteOn(0), hours);
        }
        reader.size = 0;
        return hours;
    }

    public int ask() {
        return askPerson;
    }

    public int longest() {
        int most = 0;
        for (int h = 0; h < plan.houses; h++) {
            for (int hour = 0; hour < plan.suns; hour++) {
                int cells = live.reach(h, hour);
                if (cells > most) {
                    most = cells;
                    longestHouse = h;
                    longestHour = hour;
                }
            }
        }
        return most;
    }

    public int longestAt(int what) {
        if (what == 0) {
            return longestHouse;
        }
        return what == 1 ? longestHour : NONE;
    }

    public int slip(int p) {
        if (!plan.hasPerson(p)) {
            return NONE;
        }
        latestSlip.write(live, p);
        return latestSlip.size;
    }

    public int byteAt(int i) {
        return latestSlip.byteOn(i);
    }

    public int drawn(int n, int seed) {
        if (n < 1 || n > MOST_HOURS) {
            return NONE;
        }
        trial.scene.copyFrom(scene);
        int gone = draws.liveHours(trial, n, seed);
        if (gone > 0) {
            history.keep(scene);
            scene.copyFrom(trial.scene);
        }
        return gone;
    }

    public int odds(int p, int n, int seed) {
        if (!plan.hasPerson(p) || n < 1 || n > MOST_SEEDS) {
            return NONE;
        }
        int richer = 0;
        for (int i = 0; i < n; i++) {
            trial.scene.copyFrom(scene);
            draws.liveHours(trial, ODDS_HOURS, seed + i);
            if (trial.scene.wealth[p] > scene.wealth[p]) {
                richer++;
            }
        }
        return richer;
    }

    public int book(int lives) {
        if (lives != 0 && lives != 1) {
            return OTHER_LIVES;
        }
        bookRead.readLines(plan);
        if (closeTape()) {
            return -2 - reader.faultPlace;
        }
        trial.scene.copyFrom(scene);
        bookRead.liveOn(trial);
        if (lives == 1 && bookRead.right > 0) {
            history.keep(scene);
            scene.copyFrom(trial.scene);
        }
        return bookRead.why == 0 ? NONE : bookRead.right;
    }

    public int told(int what) {
        if (!bookRead.judged) {
            return NONE;
        }
        switch (what) {
            case 0:
                return bookRead.why;
            case 1:
                return bookRead.right;
            case 2:
                return bookRead.hourThen;
            case 3:
                return bookRead.wealthThen;
            default:
                return NONE;
        }
    }

    public int sentence() {
        sentenceRead.readText(reader, plan);
        if (closeTape()) {
            return -1 - reader.faultPlace;
        }
        sentenceNow.copyFrom(sentenceRead);
        return sentenceNow.ones;
    }

    public int said(int k) {
        if (sentenceNow.ones == 0) {
            return NONE;
        }
        int bits = sentenceNow.personsMeant(live);
        return k == NONE ? Integer.bitCount(bits) : placeOfBit(bits, k);
    }

    public boolean image(int k) {
        if (k < 0 || k >= images.length) {
            return false;
        }
        images[k].copyFrom(live);
        isImageKept[k] = true;
        return true;
    }

    public boolean restore(int k) {
        if (k < 0 || k >= images.length || !isImageKept[k]) {
            return false;
        }
        live.copyFrom(images[k]);
        history.clear();
        return true;
    }

    public int count(int what) {
        switch (what) {
            case 0:
                return plan.wide;
            case 1:
                return plan.high;
            case 2:
                return plan.houses;
            case 3:
                return plan.persons;
            case 4:
                return plan.suns;
            case 5:
                return reader.size;
            default:
                return NONE;
        }
    }

    /** Empties the tape behind a text that was read, and answers whether that text had a FAULT. */
    private boolean closeTape() {
        reader.size = 0;
        latestFault = reader.faultKind;
        return latestFault != 0;
    }

    private boolean isTapeAsTold() {
        int size = reader.size;
        if (size < 3 || size > 1 + 2 * MOST_PERSONS || size % 2 == 0) {
            return false;
        }
        if (!plan.hasHouse(reader.byteOn(0))) {
            return false;
        }
        for (int i = 1; i + 1 < size; i += 2) {
            if (!plan.hasPerson(reader.byteOn(i)) || reader.byteOn(i + 1) > 1) {
                return false;
            }
        }
        return true;
    }

    private int hoursByTape() {
        if (!isTapeAsTold()) {
            return NONE;
        }
        int hours = 0;
        for (int hour = 0; hour < plan.suns; hour++) {
            if (isTapeSoAt(hour)) {
                hours |= 1 << hour;
            }
        }
        return hours;
    }

    private boolean isTapeSoAt(int hour) {
        int touched = live.personsTouched(reader.byteOn(0), hour);
        for (int i = 1; i + 1 < reader.size; i += 2) {
            if ((touched >> reader.byteOn(i) & 1) != reader.byteOn(i + 1)) {
                return false;
            }
        }
        return true;
    }

    private int bestToAsk(int h, int hours) {
        int bestPerson = NONE;
        int least = MOST_SUNS + 1;
        for (int p = 0; p < plan.persons; p++) {
            int yes = 0;
            for (int hour = 0; hour < plan.suns; hour++) {
                if ((hours >> hour & 1) == 1) {
                    yes += live.personsTouched(h, hour) >> p & 1;
                }
            }
            int left = Math.max(yes, Integer.bitCount(hours) - yes);
            if (left < least) {
                least = left;
                bestPerson = p;
            }
        }
        return bestPerson;
    }

    private static int placeOfBit(int bits, int k) {
        int before = 0;
        for (int p = 0; p < MOST_PERSONS; p++) {
            if ((bits >> p & 1) == 1) {
                if (before == k) {
                    return p;
                }
                before++;
            }
        }
        return NONE;
    }

    private static void copyRow(int[] from, int[] to) {
        System.arraycopy(from, 0, to, 0, Math.min(from.length, to.length));
    }

    private static void copyNames(long[] from, long[] to) {
        System.arraycopy(from, 0, to, 0, Math.min(from.length, to.length));
    }

    /** The tape, and the TOKENS of a text on it, read one by one up to the first FAULT. */
    private static final class Reader {
        static final int END = 0;
        static final int WORD = 1;
        static final int NUMBER = 2;
        static final int SIGN = 3;
        static final int NO_TOKEN = 4;

        static final int GROUND = 0;
        static final int STONES = 1;
        static final int HOUSE = 2;
        static final int PERSON = 3;
        static final int SUN = 4;
        static final int EAST = 5;
        static final int NORTH = 8;
        static final int LAY = 9;
        static final int TEAR = 10;
        static final int BURY = 11;
        static final int HOUR = 12;
        static final int OR = 13;
        static final int AND = 14;
        static final int NOT = 15;
        static final int SHADED = 16;
        static final int POOR = 17;
        static final int HEIR = 18;
        static final int OF = 19;
        static final int WEALTH = 20;

        /** The WORDS that no NAME may be, in the order of the numbers above, each with a blank behind it. */
        private static final String ISLAND_WORDS = "ground stones house person sun east south west north ";
        private static final String BOOK_WORDS = "lay tear bury hour ";
        private static final String SENTENCE_WORDS = "or and not shaded poor heir of wealth x y number ";
        private static final int KEPT_WORDS = 24;

        private static final int MOST_BYTES = 940;
        private static final int MOST_LETTERS = 7;
        private static final int MOST_DIGITS = 3;

        private final int[] bytes = new int[MOST_BYTES];
        private final long[] kept = new long[KEPT_WORDS];
        private int size = 0;
        private int mostTold = 0;
        private int next = 0;
        private int place = 0;
        private int kind = END;
        private long value = 0;
        private int known = NONE;
        private int faultKind = 0;
        private int faultPlace = 0;

        Reader() {
            int words = packWords(ISLAND_WORDS, 0);
            words = packWords(BOOK_WORDS, words);
            packWords(SENTENCE_WORDS, words);
        }

        private int packWords(String text, int first) {
            int words = first;
            long word = 0;
            for (int i = 0; i < text.length() && words < kept.length; i++) {
                if (text.charAt(i) == ' ') {
                    kept[words] = word;
                    words++;
                    word = 0;
                } else {
                    word = word * 32 + (text.charAt(i) - 'a' + 1);
                }
            }
            return words;
        }

        boolean hasRoom(int more) {
            return size + more <= MOST_BYTES;
        }

        void addNumber(int number) {
            for (int shift = 24; shift >= 0; shift -= 8) {
                if (size < bytes.length) {
                    bytes[size] = number >>> shift & 255;
                    size++;
                }
            }
        }

        int byteOn(int i) {
            return i >= 0 && i < size && i < bytes.length ? bytes[i] : 0;
        }

        void beginText(int most) {
            mostTold = most;
            next = 0;
            faultKind = 0;
            faultPlace = 0;
        }

        /** Notes the FAULT at the TOKEN read last; answers false, for the caller to hand on. */
        boolean fail(int why) {
            if (faultKind == 0) {
                faultKind = why;
                faultPlace = place;
            }
            return false;
        }

        /** Reads the next TOKEN: its place and kind, its value (a WORD packed) and which kept WORD it is. */
        void step() {
            for (; next < size && next < bytes.length; next++) {
                if (bytes[next] != ' ' && bytes[next] != '\n') {
                    break;
                }
            }
            place = next;
            value = 0;
            known = NONE;
            if (next >= mostTold && size > mostTold) {
                place = mostTold;
                kind = NO_TOKEN;
                return;
            }
            if (next >= size || next >= bytes.length) {
                kind = END;
                return;
            }
            int c = bytes[next];
            if (c >= 'a' && c <= 'z' || c >= '0' && c <= '9') {
                readRun();
                return;
            }
            next++;
            value = c;
            kind = c == ';' || c == '<' || c == '=' || c == '>' || c == '(' || c == ')' ? SIGN : NO_TOKEN;
        }

        private void readRun() {
            int letters = 0;
            int digits = 0;
            long word = 0;
            int number = 0;
            for (; next < size && next < bytes.length; next++) {
                int c = bytes[next];
                if (c >= 'a' && c <= 'z') {
                    letters++;
                    word = word * 32 + (c - 'a' + 1);
                } else if (c >= '0' && c <= '9') {
                    digits++;
                    number = number * 10 + (c - '0');
                } else {
                    break;
                }
            }
            if (digits == 0 && letters <= MOST_LETTERS) {
                kind = WORD;
                value = word;
                for (int i = 0; i < kept.length && known == NONE; i++) {
                    known = kept[i] == word ? i : NONE;
                }
            } else if (letters == 0 && digits <= MOST_DIGITS) {
                kind = NUMBER;
                value = number;
            } else {
                kind = NO_TOKEN;
            }
        }

        boolean isSign(char sign) {
            return kind == SIGN && value == sign;
        }

        boolean wantSign(char sign) {
            step();
            return isSign(sign) || fail(CANT_COME);
        }

        boolean wantNumber(int low, int most) {
            step();
            if (kind != NUMBER) {
                return fail(CANT_COME);
            }
            return value >= low && value <= most || fail(WRONG_NUMBER);
        }

        boolean wantSide() {
            step();
            return known >= EAST && known <= NORTH || fail(CANT_COME);
        }

        boolean wantName() {
            step();
            return kind == WORD && known == NONE || fail(CANT_COME);
        }
    }

    /** What stays as an ISLAND's text told it. */
    private static final class Plan {
        private static final int BARE_WIDE = 5;
        private static final int[] EASTWARD = {1, 0, -1, 0};
        private static final int[] SOUTHWARD = {0, 1, 0, -1};

        private int wide = BARE_WIDE;
        private int high = BARE_WIDE;
        private int houses = 0;
        private int persons = 0;
        private int suns = 0;
        private final int[] houseSpot = new int[MOST_HOUSES];
        private final int[] houseHigh = new int[MOST_HOUSES];
        private final long[] houseName = new long[MOST_HOUSES];
        private final long[] personName = new long[MOST_PERSONS];
        private final int[] sunSide = new int[MOST_SUNS];
        private final int[] sunDrop = new int[MOST_SUNS];

        void clear() {
            wide = BARE_WIDE;
            high = BARE_WIDE;
            houses = 0;
            persons = 0;
            suns = 0;
        }

        void copyFrom(Plan other) {
            wide = other.wide;
            high = other.high;
            houses = other.houses;
            persons = other.persons;
            suns = other.suns;
            copyRow(other.houseSpot, houseSpot);
            copyRow(other.houseHigh, houseHigh);
            copyNames(other.houseName, houseName);
            copyNames(other.personName, personName);
            copyRow(other.sunSide, sunSide);
            copyRow(other.sunDrop, sunDrop);
        }

        boolean hasCell(int x, int y) {
            return x >= 0 && x < wide && y >= 0 && y < high;
        }

        boolean hasHouse(int h) {
            return h >= 0 && h < houses && h < MOST_HOUSES;
        }

        boolean hasPerson(int p) {
            return p >= 0 && p < persons && p < MOST_PERSONS;
        }

        boolean hasShadow(int h, int hour) {
            return h >= 0 && h < houses && h < MOST_HOUSES && hour >= 0 && hour < suns && hour < MOST_SUNS;
        }

        int houseOn(int spot) {
            for (int h = 0; h < houses && h < MOST_HOUSES; h++) {
                if (houseSpot[h] == spot) {
                    return h;
                }
            }
            return NONE;
        }

        int houseNamed(long name) {
            for (int h = 0; h < houses && h < MOST_HOUSES; h++) {
                if (houseName[h] == name) {
                    return h;
                }
            }
            return NONE;
        }

        int personNamed(long name) {
            for (int p = 0; p < persons && p < MOST_PERSONS; p++) {
                if (personName[p] == name) {
                    return p;
                }
            }
            return NONE;
        }

        /** The spot so many steps from a spot to a SIDE; NONE: there is no cell. */
        int spotFrom(int spot, int side, int steps) {
            if (spot < 0 || spot >= SPOTS || side < 0 || side >= SIDES) {
                return NONE;
            }
            int x = spot % ROW + steps * EASTWARD[side];
            int y = spot / ROW + steps * SOUTHWARD[side];
            return x >= 0 && x < wide && y >= 0 && y < high ? ROW * y + x : NONE;
        }

        /** How many steps on the way of a SHADOW a spot is; 0 or below: it is not on that way. */
        int stepsAlong(int h, int hour, int spot) {
            if (!hasShadow(h, hour)) {
                return 0;
            }
            int side = sunSide[hour];
            if (side < 0 || side >= SIDES) {
                return 0;
            }
            int east = spot % ROW - houseSpot[h] % ROW;
            int south = spot / ROW - houseSpot[h] / ROW;
            int aside = east * SOUTHWARD[side] + south * EASTWARD[side];
            return aside == 0 ? east * EASTWARD[side] + south * SOUTHWARD[side] : 0;
        }
    }

    /** What acts and HOURS change. */
    private static final class Scene {
        private final int[] stones = new int[SPOTS];
        private final int[] standsAt = new int[MOST_PERSONS];
        private final int[] wealth = new int[MOST_PERSONS];
        private final int[] goods = new int[MOST_HOUSES];
        private int buried = 0;
        private int hour = 0;
        private int sea = 0;
        private int steps = 0;
        private int laid = 0;

        void clear() {
            for (int spot = 0; spot < stones.length; spot++) {
                stones[spot] = 0;
            }
            for (int p = 0; p < wealth.length; p++) {
                wealth[p] = 0;
            }
            buried = 0;
            hour = 0;
            sea = 0;
            steps = 0;
            laid = 0;
        }

        void copyFrom(Scene other) {
            copyRow(other.stones, stones);
            copyRow(other.standsAt, standsAt);
            copyRow(other.wealth, wealth);
            copyRow(other.goods, goods);
            buried = other.buried;
            hour = other.hour;
            sea = other.sea;
            steps = other.steps;
            laid = other.laid;
        }

        boolean isBuried(int h) {
            return (buried >> h & 1) == 1;
        }

        int allStones() {
            int all = 0;
            for (int spot = 0; spot < stones.length; spot++) {
                all += stones[spot];
            }
            return all;
        }

        int allWealth() {
            int all = 0;
            for (int p = 0; p < wealth.length; p++) {
                all += wealth[p];
            }
            return all;
        }
    }

    /** A Plan, the Scene on it and what is said of it: SHADOWS, and acts with why they can't be done. */
    private static final class Island {
        private static final int NO_CELL = 1;
        private static final int STONES_OR_HOUSE = 2;
        private static final int HOUSE_THERE = 1;
        private static final int SOMEBODY_THERE = 2;
        private static final int TOO_HIGH = 3;

        private final Plan plan;
        private final Scene scene;
        private final Sentence sentence;

        Island(Plan plan, Scene scene, Sentence sentence) {
            this.plan = plan;
            this.scene = scene;
            this.sentence = sentence;
        }

        void copyFrom(Island other) {
            plan.copyFrom(other.plan);
            scene.copyFrom(other.scene);
            sentence.copyFrom(other.sentence);
        }

        int heightAt(int spot) {
            if (spot < 0 || spot >= SPOTS) {
                return 0;
            }
            for (int h = 0; h < plan.houses && h < MOST_HOUSES; h++) {
                if (plan.houseSpot[h] == spot) {
                    return plan.houseHigh[h];
                }
            }
            return scene.stones[spot];
        }

        int personsOn(int spot) {
            int bits = 0;
            for (int p = 0; p < plan.persons && p < MOST_PERSONS; p++) {
                if (scene.standsAt[p] == spot) {
                    bits |= 1 << p;
                }
            }
            return bits;
        }

        int tableHour() {
            return plan.suns > 0 ? scene.hour % plan.suns : NONE;
        }

        /** How many cells a SHADOW touches: they follow one another from the HOUSE on. */
        int reach(int h, int hour) {
            if (!plan.hasShadow(h, hour)) {
                return 0;
            }
            int cells = 0;
            for (int steps = 1; steps < ROW; steps++) {
                int spot = plan.spotFrom(plan.houseSpot[h], plan.sunSide[hour], steps);
                int shade = plan.houseHigh[h] - steps * plan.sunDrop[hour];
                if (spot == NONE || shade <= heightAt(spot)) {
                    break;
                }
                cells = steps;
            }
            return cells;
        }

        int personsTouched(int h, int hour) {
            int cells = reach(h, hour);
            int bits = 0;
            for (int p = 0; p < plan.persons && p < MOST_PERSONS; p++) {
                int along = plan.stepsAlong(h, hour, scene.standsAt[p]);
                if (along >= 1 && along <= cells) {
                    bits |= 1 << p;
                }
            }
            return bits;
        }

        int housesTouching(int spot) {
            int hour = tableHour();
            int bits = 0;
            for (int h = 0; h < plan.houses; h++) {
                int along = plan.stepsAlong(h, hour, spot);
                if (along >= 1 && along <= reach(h, hour)) {
                    bits |= 1 << h;
                }
            }
            return bits;
        }

        /** Among how many the GOODS go, the PERSON being one of them; 0: he is not. */
        int partsWith(int p, int h, int hour) {
            int touched = personsTouched(h, hour);
            return (touched >> p & 1) == 1 ? Integer.bitCount(touched) : 0;
        }

        /** The spot ahead of that many steps where fewest stones end the SHADOW; NONE: none can be laid there. */
        int spotThatSpares(int h, int hour, int along) {
            int best = NONE;
            if (!plan.hasShadow(h, hour)) {
                return best;
            }
            int fewest = MOST_HIGH + 1;
            for (int steps = 1; steps < along && steps < ROW; steps++) {
                int spot = plan.spotFrom(plan.houseSpot[h], plan.sunSide[hour], steps);
                int stones = stonesToStop(h, hour, spot);
                if (stones < fewest && whyNotLay(spot) == 0) {
                    fewest = stones;
                    best = spot;
                }
            }
            return best;
        }

        int stonesToStop(int h, int hour, int spot) {
            if (!plan.hasShadow(h, hour)) {
                return 0;
            }
            int shade = plan.houseHigh[h] - plan.stepsAlong(h, hour, spot) * plan.sunDrop[hour];
            return shade - heightAt(spot);
        }

        int whyNotStep(int p, int side) {
            int spot = plan.hasPerson(p) ? plan.spotFrom(scene.standsAt[p], side, 1) : NONE;
            if (spot == NONE) {
                return NO_CELL;
            }
            return heightAt(spot) > 0 ? STONES_OR_HOUSE : 0;
        }

        void makeStep(int p, int side) {
            int spot = plan.hasPerson(p) ? plan.spotFrom(scene.standsAt[p], side, 1) : NONE;
            if (spot != NONE) {
                scene.standsAt[p] = spot;
                scene.steps++;
            }
        }

        int sidesOpen(int p) {
            int bits = 0;
            for (int side = 0; side < SIDES; side++) {
                if (whyNotStep(p, side) == 0) {
                    bits |= 1 << side;
                }
            }
            return bits;
        }

        int whyNotLay(int spot) {
            if (plan.houseOn(spot) != NONE) {
                return HOUSE_THERE;
            }
            if (personsOn(spot) != 0) {
                return SOMEBODY_THERE;
            }
            return heightAt(spot) >= MOST_HIGH ? TOO_HIGH : 0;
        }

        void layStone(int spot) {
            if (spot >= 0 && spot < SPOTS) {
                scene.stones[spot]++;
                scene.laid++;
            }
        }

        int whyNotTear(int spot) {
            return spot >= 0 && spot < SPOTS && scene.stones[spot] > 0 ? 0 : 1;
        }

        void tearStone(int spot) {
            if (spot >= 0 && spot < SPOTS) {
                scene.stones[spot]--;
            }
        }

        int whyNotBury(int h) {
            return scene.isBuried(h) ? 1 : 0;
        }

        void buryHouse(int h) {
            if (!plan.hasHouse(h)) {
                return;
            }
            int touched = personsTouched(h, tableHour());
            int heirs = Integer.bitCount(touched);
            int part = heirs > 0 ? scene.goods[h] / heirs : 0;
            for (int p = 0; p < MOST_PERSONS; p++) {
                if ((touched >> p & 1) == 1) {
                    scene.wealth[p] += part;
                }
            }
            scene.sea += scene.goods[h] - part * heirs;
            scene.goods[h] = 0;
            scene.buried |= 1 << h;
        }
    }

    /** Reads an ISLAND from the tape into a draft, so that a FAULT leaves the ISLAND of now alone. */
    private static final class IslandText {
        private static final int MOST_BYTES = 900;
        private static final int LEAST_WIDE = 2;

        private final Reader reader;
        private final Plan plan = new Plan();
        private final Scene scene = new Scene();
        private final Island draft = new Island(plan, scene, new Sentence());
        private boolean isGroundTold = false;
        private boolean isSpotTold = false;
        private int spot = 0;

        IslandText(Reader reader) {
            this.reader = reader;
        }

        /** How many LINES there are; the reader knows of a FAULT. */
        int readLines() {
            reader.beginText(MOST_BYTES);
            plan.clear();
            scene.clear();
            isGroundTold = false;
            isSpotTold = false;
            for (int lines = 0; lines < MOST_BYTES; lines++) {
                reader.step();
                if (reader.kind == Reader.END || !readLine() || !reader.wantSign(';')) {
                    return lines;
                }
            }
            return MOST_BYTES;
        }

        private boolean readLine() {
            switch (reader.known) {
                case Reader.GROUND:
                    return readGround();
                case Reader.STONES:
                    return readStones();
                case Reader.HOUSE:
                    return readHouse();
                case Reader.PERSON:
                    return readPerson();
                case Reader.SUN:
                    return readSun();
                default:
                    return reader.fail(CANT_COME);
            }
        }

        private boolean readGround() {
            if (isGroundTold || isSpotTold) {
                return reader.fail(WRONG_NAME_OR_CELL);
            }
            isGroundTold = true;
            if (!reader.wantNumber(LEAST_WIDE, ROW)) {
                return false;
            }
            plan.wide = (int) reader.value;
            if (!reader.wantNumber(LEAST_WIDE, ROW)) {
                return false;
            }
            plan.high = (int) reader.value;
            return true;
        }

        private boolean readStones() {
            if (!readSpot(false) || !reader.wantNumber(1, MOST_HIGH)) {
                return false;
            }
            scene.stones[spot] = (int) reader.value;
            return true;
        }

        private boolean readHouse() {
            int h = plan.houses;
            if (h >= MOST_HOUSES) {
                return reader.fail(ONE_TOO_MANY);
            }
            if (!readNewName()) {
                return false;
            }
            plan.houseName[h] = reader.value;
            if (!readSpot(false) || !reader.wantNumber(1, MOST_HIGH)) {
                return false;
            }
            plan.houseSpot[h] = spot;
            plan.houseHigh[h] = (int) reader.value;
            if (!reader.wantNumber(0, MOST_GOODS)) {
                return false;
            }
            scene.goods[h] = (int) reader.value;
            plan.houses++;
            return true;
        }

        private boolean readPerson() {
            int p = plan.persons;
            if (p >= MOST_PERSONS) {
                return reader.fail(ONE_TOO_MANY);
            }
            if (!readNewName()) {
                return false;
            }
            plan.personName[p] = reader.value;
            if (!readSpot(true)) {
                return false;
            }
            scene.standsAt[p] = spot;
            plan.persons++;
            return true;
        }

        private boolean readSun() {
            int hour = plan.suns;
            if (hour >= MOST_SUNS) {
                return reader.fail(ONE_TOO_MANY);
            }
            if (!reader.wantSide()) {
                return false;
            }
            plan.sunSide[hour] = reader.known - Reader.EAST;
            if (!reader.wantNumber(1, MOST_HIGH)) {
                return false;
            }
            plan.sunDrop[hour] = (int) reader.value;
            plan.suns++;
            return true;
        }

        private boolean readNewName() {
            if (!reader.wantName()) {
                return false;
            }
            boolean isTold = plan.houseNamed(reader.value) != NONE || plan.personNamed(reader.value) != NONE;
            return !isTold || reader.fail(WRONG_NAME_OR_CELL);
        }

        private boolean readSpot(boolean withPersons) {
            isSpotTold = true;
            if (!reader.wantNumber(0, plan.wide - 1)) {
                return false;
            }
            int x = (int) reader.value;
            if (!reader.wantNumber(0, plan.high - 1)) {
                return false;
            }
            spot = ROW * (int) reader.value + x;
            if (draft.heightAt(spot) > 0 || !withPersons && draft.personsOn(spot) != 0) {
                return reader.fail(WRONG_NAME_OR_CELL);
            }
            return true;
        }
    }

    /** The BOOK read last, and how it was judged. */
    private static final class Book {
        private static final int MOST_BYTES = 400;
        private static final int MOST_LINES = 40;
        private static final int GO = 0;
        private static final int LAY = 10;
        private static final int TEAR = 20;
        private static final int BURY = 30;
        private static final int HOUR = 40;
        private static final int NO_SUCH_CELL = 9;
        private static final int FEWER_HOURS = 1;

        private final Reader reader;
        private final int[] acts = new int[MOST_LINES];
        private final int[] firsts = new int[MOST_LINES];
        private final int[] seconds = new int[MOST_LINES];
        private int lines = 0;
        private boolean judged = false;
        private int why = 0;
        private int right = 0;
        private int hourThen = 0;
        private int wealthThen = 0;

        Book(Reader reader) {
            this.reader = reader;
        }

        void readLines(Plan plan) {
            reader.beginText(MOST_BYTES);
            lines = 0;
            for (int i = 0; i <= MOST_LINES; i++) {
                reader.step();
                if (reader.kind == Reader.END || !readLine(plan) || !reader.wantSign(';')) {
                    return;
                }
                lines++;
            }
        }

        private boolean readLine(Plan plan) {
            int act = actOf(reader.known);
            if (reader.kind != Reader.WORD || act == NONE) {
                return reader.fail(CANT_COME);
            }
            int p = plan.personNamed(reader.value);
            if (act == GO && p == NONE) {
                return reader.fail(WRONG_NAME_OR_CELL);
            }
            if (lines >= MOST_LINES) {
                return reader.fail(ONE_TOO_MANY);
            }
            acts[lines] = act;
            switch (act) {
                case GO:
                    firsts[lines] = p;
                    return readSide();
                case BURY:
                    return readHouse(plan);
                case HOUR:
                    return readNumber(firsts, 1, MOST_HOURS);
                default:
                    return readNumber(firsts, 0, ROW - 1) && readNumber(seconds, 0, ROW - 1);
            }
        }

        /** A WORD that is kept for nothing is a NAME: then somebody goes. */
        private static int actOf(int known) {
            switch (known) {
                case NONE:
                    return GO;
                case Reader.LAY:
                    return LAY;
                case Reader.TEAR:
                    return TEAR;
                case Reader.BURY:
                    return BURY;
                case Reader.HOUR:
                    return HOUR;
                default:
                    return NONE;
            }
        }

        private boolean readSide() {
            if (!reader.wantSide()) {
                return false;
            }
            seconds[lines] = reader.known - Reader.EAST;
            return true;
        }

        private boolean readHouse(Plan plan) {
            if (!reader.wantName()) {
                return false;
            }
            firsts[lines] = plan.houseNamed(reader.value);
            return firsts[lines] != NONE || reader.fail(WRONG_NAME_OR_CELL);
        }

        private boolean readNumber(int[] row, int low, int most) {
            if (!reader.wantNumber(low, most)) {
                return false;
            }
            row[lines] = (int) reader.value;
            return true;
        }

        /** Lives the LINES as far as none is WRONG, and notes how it went. */
        void liveOn(Island island) {
            judged = true;
            why = 0;
            right = 0;
            for (int i = 0; i < lines && i < MOST_LINES; i++) {
                why = liveLine(island, acts[i], firsts[i], seconds[i]);
                if (why != 0) {
                    break;
                }
                right++;
            }
            hourThen = island.scene.hour;
            wealthThen = island.scene.allWealth();
        }

        private static int liveLine(Island island, int act, int first, int second) {
            int whyNot = whyNot(island, act, first, second);
            if (whyNot != 0) {
                return act + whyNot;
            }
            switch (act) {
                case GO:
                    island.makeStep(first, second);
                    break;
                case LAY:
                    island.layStone(ROW * second + first);
                    break;
                case TEAR:
                    island.tearStone(ROW * second + first);
                    break;
                case BURY:
                    island.buryHouse(first);
                    break;
                default:
                    island.scene.hour += first;
                    break;
            }
            return 0;
        }

        private static int whyNot(Island island, int act, int first, int second) {
            switch (act) {
                case GO:
                    return island.whyNotStep(first, second);
                case LAY:
                    return island.plan.hasCell(first, second)
                        ? island.whyNotLay(ROW * second + first) : NO_SUCH_CELL;
                case TEAR:
                    return island.plan.hasCell(first, second)
                        ? island.whyNotTear(ROW * second + first) : NO_SUCH_CELL;
                case BURY:
                    return island.whyNotBury(first);
                default:
                    return island.scene.hour + first > LAST_HOUR ? FEWER_HOURS : 0;
            }
        }
    }

    /** A SENTENCE, kept as its ONES with each joint behind what it joins; no ONES: there is none. */
    private static final class Sentence {
        private static final int MOST_BYTES = 200;
        private static final int MOST_ONES = 20;
        private static final int MOST_WITHIN = 8;
        private static final int LESS = 0;
        private static final int LIKE = 1;
        private static final int SUBJECTS = 100;

        private final int[] parts = new int[2 * MOST_ONES];
        private final int[] details = new int[2 * MOST_ONES];
        private final int[] stack = new int[MOST_ONES];
        private int size = 0;
        private int ones = 0;

        void clear() {
            size = 0;
            ones = 0;
        }

        void copyFrom(Sentence other) {
            copyRow(other.parts, parts);
            copyRow(other.details, details);
            size = other.size;
            ones = other.ones;
        }

        void readText(Reader reader, Plan plan) {
            clear();
            reader.beginText(MOST_BYTES);
            reader.step();
            if (readCond(reader, plan, 1) && reader.kind != Reader.END) {
                reader.fail(CANT_COME);
            }
        }

        /** Reads from the TOKEN at hand to the first that belongs to it no more. */
        private boolean readCond(Reader reader, Plan plan, int depth) {
            for (int alls = 0; alls <= MOST_ONES; alls++) {
                for (int inAll = 0; inAll <= MOST_ONES; inAll++) {
                    if (!readOne(reader, plan, depth)) {
                        return false;
                    }
                    if (inAll > 0) {
                        add(Reader.AND, 0);
                    }
                    if (reader.known != Reader.AND) {
                        break;
                    }
                    reader.step();
                }
                if (alls > 0) {
                    add(Reader.OR, 0);
                }
                if (reader.known != Reader.OR) {
                    break;
                }
                reader.step();
            }
            return true;
        }

        private boolean readOne(Reader reader, Plan plan, int depth) {
            int word = reader.known;
            boolean isBracket = reader.isSign('(');
            if (!isBracket && word < Reader.NOT) {
                return reader.fail(CANT_COME);
            }
            if (depth > MOST_WITHIN || ones >= MOST_ONES) {
                return reader.fail(ONE_TOO_MANY);
            }
            ones++;
            if (word == Reader.NOT) {
                reader.step();
                boolean isRead = readOne(reader, plan, depth + 1);
                add(Reader.NOT, 0);
                return isRead;
            }
            boolean isRead = true;
            if (isBracket) {
                reader.step();
                isRead = readCond(reader, plan, depth + 1) && (reader.isSign(')') || reader.fail(CANT_COME));
            } else if (word == Reader.OF) {
                isRead = readHouse(reader, plan);
            } else if (word >= Reader.WEALTH) {
                isRead = readCompared(reader, word);
            } else {
                add(word, 0);
            }
            if (isRead) {
                reader.step();
            }
            return isRead;
        }

        private boolean readHouse(Reader reader, Plan plan) {
            if (!reader.wantName()) {
                return false;
            }
            int h = plan.houseNamed(reader.value);
            add(Reader.OF, h);
            return h != NONE || reader.fail(WRONG_NAME_OR_CELL);
        }

        private boolean readCompared(Reader reader, int subject) {
            reader.step();
            if (!reader.isSign('<') && !reader.isSign('=') && !reader.isSign('>')) {
                return reader.fail(CANT_COME);
            }
            int sign = (int) reader.value - '<';
            if (!reader.wantNumber(0, 999)) {
                return false;
            }
            add(SUBJECTS * (sign + 1) + subject, (int) reader.value);
            return true;
        }

        private void add(int part, int detail) {
            if (size < parts.length && size < details.length) {
                parts[size] = part;
                details[size] = detail;
                size++;
            }
        }

        /** The PERSONS of whom it may be said, as bits: each part is reckoned for all of them at once. */
        int personsMeant(Island island) {
            int depth = 0;
            for (int i = 0; i < size && i < parts.length; i++) {
                int part = parts[i];
                if (part == Reader.NOT && depth >= 1) {
                    stack[depth - 1] = ~stack[depth - 1];
                } else if (part == Reader.AND && depth >= 2) {
                    depth--;
                    stack[depth - 1] &= stack[depth];
                } else if (part == Reader.OR && depth >= 2) {
                    depth--;
                    stack[depth - 1] |= stack[depth];
                } else if (depth < stack.length) {
                    stack[depth] = personsOf(island, part, details[i]);
                    depth++;
                }
            }
            return depth == 1 ? stack[0] & (1 << island.plan.persons) - 1 : 0;
        }

        private static int personsOf(Island island, int part, int detail) {
            int bits = 0;
            for (int p = 0; p < island.plan.persons && p < MOST_PERSONS; p++) {
                boolean holds = part >= SUBJECTS
                    ? isCompared(numberOf(island, part % SUBJECTS, p), part / SUBJECTS - 1, detail)
                    : isSo(island, part, detail, p);
                if (holds) {
                    bits |= 1 << p;
                }
            }
            return bits;
        }

        private static boolean isSo(Island island, int part, int h, int p) {
            int touching = island.housesTouching(island.scene.standsAt[p]);
            switch (part) {
                case Reader.SHADED:
                    return (touching & ~island.scene.buried) != 0;
                case Reader.POOR:
                    return island.scene.wealth[p] == 0;
                case Reader.HEIR:
                    // nobody ever loses anything: who got something has something
                    return island.scene.wealth[p] > 0;
                default:
                    return (touching >> h & 1) == 1;
            }
        }

        private static int numberOf(Island island, int subject, int p) {
            switch (subject - Reader.WEALTH) {
                case 0:
                    return island.scene.wealth[p];
                case 1:
                    return island.scene.standsAt[p] % ROW;
                case 2:
                    return island.scene.standsAt[p] / ROW;
                default:
                    return p;
            }
        }

        private static boolean isCompared(int number, int sign, int limit) {
            if (sign == LESS) {
                return number < limit;
            }
            return sign == LIKE ? number == limit : number > limit;
        }
    }

    /** How far PERSONS must go into a SHADOW. */
    private static final class Walk {
        private static final int SETS = 128;

        private final Island island;
        private final int[] stepsTo = new int[SPOTS];
        private final int[] queue = new int[SPOTS];
        private final boolean[] canBeTaken = new boolean[SETS];

        Walk(Island island) {
            this.island = island;
        }

        /** Reckons the fewest steps from where a PERSON stands to every spot; NONE: he can't come there. */
        private void spread(int p) {
            for (int spot = 0; spot < stepsTo.length; spot++) {
                stepsTo[spot] = NONE;
            }
            int from = island.plan.hasPerson(p) ? island.scene.standsAt[p] : NONE;
            if (from < 0 || from >= SPOTS) {
                return;
            }
            stepsTo[from] = 0;
            queue[0] = from;
            int size = 1;
            for (int first = 0; first < size && first < SPOTS; first++) {
                int spot = queue[first];
                for (int side = 0; side < SIDES; side++) {
                    int to = island.plan.spotFrom(spot, side, 1);
                    if (to != NONE && stepsTo[to] == NONE && island.heightAt(to) == 0 && size < SPOTS) {
                        stepsTo[to] = stepsTo[spot] + 1;
                        queue[size] = to;
                        size++;
                    }
                }
            }
        }

        /** The fewest steps to the cell so far along the SHADOW, as spread() reckoned them. */
        private int stepsToShade(int h, int hour, int along) {
            if (!island.plan.hasShadow(h, hour)) {
                return NONE;
            }
            int spot = island.plan.spotFrom(island.plan.houseSpot[h], island.plan.sunSide[hour], along);
            return spot == NONE ? NONE : stepsTo[spot];
        }

        int stepsIntoShadow(int p, int h, int hour) {
            spread(p);
            int cells = island.reach(h, hour);
            int fewest = NONE;
            for (int along = 1; along <= cells; along++) {
                int steps = stepsToShade(h, hour, along);
                if (steps != NONE && (fewest == NONE || steps < fewest)) {
                    fewest = steps;
                }
            }
            return fewest;
        }

        /** PERSON by PERSON: which sets of cells of the SHADOW can be taken by as many PERSONS. */
        int mostInShadow(int h, int hour, int k) {
            for (int set = 0; set < SETS; set++) {
                canBeTaken[set] = set == 0;
            }
            for (int p = 0; p < island.plan.persons; p++) {
                takeOneMore(cellsWithin(p, h, hour, k));
            }
            int most = 0;
            for (int set = 0; set < SETS; set++) {
                if (canBeTaken[set]) {
                    most = Math.max(most, Integer.bitCount(set));
                }
            }
            return most;
        }

        private int cellsWithin(int p, int h, int hour, int k) {
            spread(p);
            int cells = island.reach(h, hour);
            int bits = 0;
            for (int along = 1; along <= cells; along++) {
                int steps = stepsToShade(h, hour, along);
                if (steps != NONE && steps <= k) {
                    bits |= 1 << along - 1;
                }
            }
            return bits;
        }

        /** Larger sets first, so that nobody takes two cells. */
        private void takeOneMore(int cells) {
            for (int set = SETS - 1; set >= 0; set--) {
                for (int bit = 1; canBeTaken[set] && bit < SETS; bit <<= 1) {
                    if ((cells & bit) != 0 && (set & bit) == 0 && (set | bit) < SETS) {
                        canBeTaken[set | bit] = true;
                    }
                }
            }
        }
    }

    /** HOURS lived by draws. */
    private static final class Draws {
        private static final int ACTS = 6;
        private static final int LAYING = 4;
        private static final int BURIALS = 10;

        private int x = 0;

        private int draw(int n) {
            x = x * 1103515245 + 12345;
            return n > 0 ? (x >>> 8) % n : 0;
        }

        /** How many HOURS went by. */
        int liveHours(Island island, int n, int seed) {
            x = seed;
            int gone = Math.min(n, LAST_HOUR - island.scene.hour);
            for (int i = 0; i < gone; i++) {
                for (int p = 0; p < island.plan.persons && p < MOST_PERSONS; p++) {
                    livePerson(island, p);
                }
                if (draw(BURIALS) == 0 && island.plan.houses > 0) {
                    int h = draw(island.plan.houses);
                    if (island.whyNotBury(h) == 0) {
                        island.buryHouse(h);
                    }
                }
                island.scene.hour++;
            }
            return gone;
        }

        private void livePerson(Island island, int p) {
            int act = draw(ACTS);
            if (act < SIDES) {
                if (island.whyNotStep(p, act) == 0) {
                    island.makeStep(p, act);
                }
            } else if (act == LAYING) {
                int east = draw(island.plan.wide);
                int south = draw(island.plan.high);
                int spot = ROW * south + east;
                if (island.whyNotLay(spot) == 0) {
                    island.layStone(spot);
                }
            }
        }
    }

    /** The SLIP written last. */
    private static final class Slip {
        private static final int MOST_BYTES = 40;

        private final int[] bytes = new int[MOST_BYTES];
        private int size = 0;

        int byteOn(int i) {
            return i >= 0 && i < size && i < bytes.length ? bytes[i] : NONE;
        }

        void write(Island island, int p) {
            size = 0;
            int spot = island.scene.standsAt[p];
            addName(island.plan.personName[p]);
            addText(" at ");
            addNumber(spot % ROW);
            addText(" ");
            addNumber(spot / ROW);
            addText(" has ");
            addNumber(island.scene.wealth[p]);
            int touching = island.housesTouching(spot) & ~island.scene.buried;
            for (int h = 0; h < MOST_HOUSES; h++) {
                if ((touching >> h & 1) == 1) {
                    addText(" of ");
                    addName(island.plan.houseName[h]);
                    return;
                }
            }
        }

        private void add(int c) {
            if (size < bytes.length) {
                bytes[size] = c;
                size++;
            }
        }

        private void addText(String text) {
            for (int i = 0; i < text.length(); i++) {
                add(text.charAt(i));
            }
        }

        /** A NAME is packed with five bits a letter, the first one highest, and 0 for no letter. */
        private void addName(long name) {
            for (int shift = 30; shift >= 0; shift -= 5) {
                int letter = (int) (name >> shift & 31);
                if (letter != 0) {
                    add('a' - 1 + letter);
                }
            }
        }

        private void addNumber(int number) {
            for (int unit = 100; unit >= 1; unit /= 10) {
                if (number >= unit || unit == 1) {
                    add('0' + number / unit % 10);
                }
            }
        }
    }

    /** The Scenes ahead of the latest acts; the oldest gives way. */
    private static final class History {
        private static final int MOST = 8;

        private final Scene[] kept = new Scene[MOST];
        private int next = 0;
        private int size = 0;

        History() {
            for (int i = 0; i < kept.length; i++) {
                kept[i] = new Scene();
            }
        }

        void clear() {
            size = 0;
        }

        void keep(Scene scene) {
            kept[next].copyFrom(scene);
            next = (next + 1) % MOST;
            size = Math.min(size + 1, MOST);
        }

        boolean bringBack(Scene scene) {
            if (size == 0) {
                return false;
            }
            next = (next + MOST - 1) % MOST;
            size--;
            scene.copyFrom(kept[next]);
            return true;
        }
    }
}
