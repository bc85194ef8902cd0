import java.util.ArrayDeque;
import java.util.ArrayList;
import java.util.Arrays;
import java.util.Deque;
import java.util.HashSet;
import java.util.List;
import java.util.NoSuchElementException;
import java.util.Set;
import java.util.function.IntPredicate;

/**
 * The document written down a second time, with the Java library and without thought of room or speed, to be held
 * against the class call by call. Texts are cut into TOKENS first and read then; a FAULT is thrown.
 */
final class Model {
    private static final Set<String> KEPT = new HashSet<>(Arrays.asList(("ground stones house person sun east south west "
        + "north lay tear bury hour or and not shaded poor heir of wealth x y number").split(" ")));
    private static final List<String> SIDES = Arrays.asList("east", "south", "west", "north");
    private static final int[] DX = {1, 0, -1, 0};
    private static final int[] DY = {0, 1, 0, -1};

    private static final class Fault extends RuntimeException {
        private static final long serialVersionUID = 1;
        final int kind;
        final int place;

        Fault(int kind, int place) {
            this.kind = kind;
            this.place = place;
        }
    }

    private static final class Token {
        final String text;
        final int place;

        Token(String text, int place) {
            this.text = text;
            this.place = place;
        }

        boolean is(String other) {
            return text.equals(other);
        }

        boolean isWord() {
            return text.matches("[a-z]{1,7}");
        }

        boolean isNumber() {
            return text.matches("[0-9]{1,3}");
        }

        boolean isName() {
            return isWord() && !KEPT.contains(text);
        }
    }

    static final class House {
        String name;
        int x;
        int y;
        int high;
        int goods;
        boolean buried;

        House copy() {
            House h = new House();
            h.name = name;
            h.x = x;
            h.y = y;
            h.high = high;
            h.goods = goods;
            h.buried = buried;
            return h;
        }
    }

    static final class Person {
        String name;
        int x;
        int y;
        int wealth;
        boolean heir;

        Person copy() {
            Person p = new Person();
            p.name = name;
            p.x = x;
            p.y = y;
            p.wealth = wealth;
            p.heir = heir;
            return p;
        }
    }

    static final class World {
        int wide = 5;
        int high = 5;
        int[][] stones = new int[8][8];
        List<House> houses = new ArrayList<>();
        List<Person> persons = new ArrayList<>();
        List<int[]> suns = new ArrayList<>();
        int hour;
        int sea;
        int steps;
        int laid;

        World copy() {
            World w = new World();
            w.wide = wide;
            w.high = high;
            for (int i = 0; i < 8; i++) {
                w.stones[i] = stones[i].clone();
            }
            for (House h : houses) {
                w.houses.add(h.copy());
            }
            for (Person p : persons) {
                w.persons.add(p.copy());
            }
            w.suns.addAll(suns);
            w.hour = hour;
            w.sea = sea;
            w.steps = steps;
            w.laid = laid;
            return w;
        }

        boolean has(int x, int y) {
            return x >= 0 && y >= 0 && x < wide && y < high;
        }

        int houseAt(int x, int y) {
            for (int h = 0; h < houses.size(); h++) {
                if (houses.get(h).x == x && houses.get(h).y == y) {
                    return h;
                }
            }
            return -1;
        }

        int personsAt(int x, int y) {
            int bits = 0;
            for (int p = 0; p < persons.size(); p++) {
                if (persons.get(p).x == x && persons.get(p).y == y) {
                    bits |= 1 << p;
                }
            }
            return bits;
        }

        int height(int x, int y) {
            int h = houseAt(x, y);
            return h >= 0 ? houses.get(h).high : stones[x][y];
        }

        int now() {
            return suns.isEmpty() ? -1 : hour % suns.size();
        }

        /** The cells touched, nearest first. */
        List<int[]> shade(int h, int hourOfTable) {
            List<int[]> cells = new ArrayList<>();
            if (hourOfTable < 0) {
                return cells;
            }
            House house = houses.get(h);
            int side = suns.get(hourOfTable)[0];
            int drop = suns.get(hourOfTable)[1];
            int x = house.x + DX[side];
            int y = house.y + DY[side];
            for (int left = house.high - drop; has(x, y) && left > height(x, y); left -= drop) {
                cells.add(new int[] {x, y});
                x += DX[side];
                y += DY[side];
            }
            return cells;
        }

        boolean touches(int h, int hourOfTable, int x, int y) {
            return shade(h, hourOfTable).stream().anyMatch(c -> c[0] == x && c[1] == y);
        }

        int heirs(int h, int hourOfTable) {
            int bits = 0;
            for (int p = 0; p < persons.size(); p++) {
                if (touches(h, hourOfTable, persons.get(p).x, persons.get(p).y)) {
                    bits |= 1 << p;
                }
            }
            return bits;
        }

        int touching(int x, int y) {
            int bits = 0;
            for (int h = 0; h < houses.size(); h++) {
                if (touches(h, now(), x, y)) {
                    bits |= 1 << h;
                }
            }
            return bits;
        }

        int go(int p, int side) {
            Person person = persons.get(p);
            int x = person.x + DX[side];
            int y = person.y + DY[side];
            if (!has(x, y)) {
                return 1;
            }
            if (height(x, y) > 0) {
                return 2;
            }
            person.x = x;
            person.y = y;
            steps++;
            return 0;
        }

        int lay(int x, int y) {
            if (houseAt(x, y) >= 0) {
                return 1;
            }
            if (personsAt(x, y) != 0) {
                return 2;
            }
            if (stones[x][y] == 9) {
                return 3;
            }
            stones[x][y]++;
            laid++;
            return 0;
        }

        int tear(int x, int y) {
            if (stones[x][y] == 0) {
                return 1;
            }
            stones[x][y]--;
            return 0;
        }

        int bury(int h) {
            House house = houses.get(h);
            if (house.buried) {
                return 1;
            }
            int bits = heirs(h, now());
            int n = Integer.bitCount(bits);
            int rest = house.goods;
            for (int p = 0; p < persons.size(); p++) {
                if ((bits & 1 << p) != 0) {
                    int part = house.goods / n;
                    persons.get(p).wealth += part;
                    persons.get(p).heir |= part > 0;
                    rest -= part;
                }
            }
            sea += rest;
            house.goods = 0;
            house.buried = true;
            return 0;
        }

        int pass(int n) {
            int gone = 0;
            while (gone < n && hour < 400) {
                hour++;
                gone++;
            }
            return gone;
        }

        int wealth() {
            return persons.stream().mapToInt(p -> p.wealth).sum();
        }

        int drawn(int n, int seed) {
            int[] x = {seed};
            int gone = 0;
            while (gone < n && hour < 400) {
                for (int p = 0; p < persons.size(); p++) {
                    int act = draw(x, 6);
                    if (act < 4) {
                        go(p, act);
                    } else if (act == 4) {
                        int east = draw(x, wide);
                        int south = draw(x, high);
                        lay(east, south);
                    }
                }
                if (draw(x, 10) == 0 && !houses.isEmpty()) {
                    bury(draw(x, houses.size()));
                }
                hour++;
                gone++;
            }
            return gone;
        }

        private static int draw(int[] x, int n) {
            x[0] = x[0] * 1103515245 + 12345;
            return (x[0] >>> 8) % n;
        }

        int houseNamed(String name) {
            for (int h = 0; h < houses.size(); h++) {
                if (houses.get(h).name.equals(name)) {
                    return h;
                }
            }
            return -1;
        }

        int personNamed(String name) {
            for (int p = 0; p < persons.size(); p++) {
                if (persons.get(p).name.equals(name)) {
                    return p;
                }
            }
            return -1;
        }

        int[][] far(int p) {
            int[][] far = new int[8][8];
            for (int[] row : far) {
                Arrays.fill(row, -1);
            }
            Deque<int[]> next = new ArrayDeque<>();
            far[persons.get(p).x][persons.get(p).y] = 0;
            next.add(new int[] {persons.get(p).x, persons.get(p).y});
            while (!next.isEmpty()) {
                int[] c = next.remove();
                for (int s = 0; s < 4; s++) {
                    int x = c[0] + DX[s];
                    int y = c[1] + DY[s];
                    if (has(x, y) && far[x][y] < 0 && height(x, y) == 0) {
                        far[x][y] = far[c[0]][c[1]] + 1;
                        next.add(new int[] {x, y});
                    }
                }
            }
            return far;
        }
    }

    private final List<Integer> tape = new ArrayList<>();
    private World world = new World();
    private IntPredicate sentence;
    private int ones;
    private final Deque<World> undo = new ArrayDeque<>();
    private final World[] imageWorld = new World[2];
    private final IntPredicate[] imageSentence = new IntPredicate[2];
    private int fault;
    private int spareAt = -1;
    private int ask = -1;
    private int longestHouse = -1;
    private int longestHour = -1;
    private String slip = "";
    private int[] told;

    // the TOKENS of the text at hand
    private List<Token> tokens;
    private int at;

    int feed(int... numbers) {
        if (tape.size() + 20 > 940) {
            return -1;
        }
        for (int n : numbers) {
            tape.add(n >>> 24);
            tape.add(n >>> 16 & 255);
            tape.add(n >>> 8 & 255);
            tape.add(n & 255);
        }
        return tape.size();
    }

    boolean end(int n) {
        if (n < 0 || n > tape.size()) {
            return false;
        }
        tape.subList(n, tape.size()).clear();
        return true;
    }

    private void cut(int most) {
        StringBuilder text = new StringBuilder();
        for (int b : tape) {
            text.append((char) b);
        }
        tape.clear();
        tokens = new ArrayList<>();
        at = 0;
        int i = 0;
        while (i < text.length()) {
            int from = i;
            if (text.charAt(i) == ' ' || text.charAt(i) == '\n') {
                i++;
                continue;
            }
            if (from >= most) {
                break;
            }
            while (i < text.length() && text.substring(i, i + 1).matches("[a-z0-9]")) {
                i++;
            }
            if (i == from) {
                i++;
            }
            tokens.add(new Token(text.substring(from, i), from));
        }
        // behind the last TOKEN comes what is none: the end, or the most bytes told
        if (text.length() > most) {
            tokens.add(new Token("too long", most));
        } else {
            tokens.add(new Token("", text.length()));
        }
    }

    private Token look() {
        return tokens.get(at);
    }

    private Token take() {
        return tokens.get(at++);
    }

    private boolean isEnd() {
        return look().is("");
    }

    private Token need(boolean isAsTold, Token token, int kind) {
        if (!isAsTold) {
            throw new Fault(kind, token.place);
        }
        return token;
    }

    private int number(int low, int most) {
        Token t = look();
        need(t.isNumber(), t, 1);
        int n = Integer.parseInt(t.text);
        need(n >= low && n <= most, t, 2);
        at++;
        return n;
    }

    private void sign(String s) {
        need(look().is(s), look(), 1);
        at++;
    }

    private int side() {
        need(SIDES.contains(look().text), look(), 1);
        return SIDES.indexOf(take().text);
    }

    private Token name() {
        need(look().isName(), look(), 1);
        return take();
    }

    int island() {
        cut(900);
        try {
            World w = new World();
            int lines = 0;
            boolean ground = false;
            boolean spots = false;
            while (!isEnd()) {
                Token first = look();
                switch (first.text) {
                    case "ground":
                        need(!ground && !spots, first, 3);
                        at++;
                        ground = true;
                        w.wide = number(2, 8);
                        w.high = number(2, 8);
                        break;
                    case "stones":
                        at++;
                        spots = true;
                        int[] spot = spot(w, false);
                        w.stones[spot[0]][spot[1]] = number(1, 9);
                        break;
                    case "house":
                        need(w.houses.size() < 5, first, 4);
                        at++;
                        spots = true;
                        w.houses.add(house(w));
                        break;
                    case "person":
                        need(w.persons.size() < 6, first, 4);
                        at++;
                        spots = true;
                        Person p = new Person();
                        p.name = newName(w);
                        int[] stand = spot(w, true);
                        p.x = stand[0];
                        p.y = stand[1];
                        w.persons.add(p);
                        break;
                    case "sun":
                        need(w.suns.size() < 8, first, 4);
                        at++;
                        w.suns.add(new int[] {side(), number(1, 9)});
                        break;
                    default:
                        throw new Fault(1, first.place);
                }
                sign(";");
                lines++;
            }
            world = w;
            sentence = null;
            undo.clear();
            fault = 0;
            return lines;
        } catch (Fault f) {
            fault = f.kind;
            return -1 - f.place;
        }
    }

    private House house(World w) {
        House h = new House();
        h.name = newName(w);
        int[] spot = spot(w, false);
        h.x = spot[0];
        h.y = spot[1];
        h.high = number(1, 9);
        h.goods = number(0, 99);
        return h;
    }

    private String newName(World w) {
        Token t = name();
        need(w.houseNamed(t.text) < 0 && w.personNamed(t.text) < 0, t, 3);
        return t.text;
    }

    private int[] spot(World w, boolean isForPerson) {
        int x = number(0, w.wide - 1);
        Token t = look();
        int y = number(0, w.high - 1);
        need(w.height(x, y) == 0 && (isForPerson || w.personsAt(x, y) == 0), t, 3);
        return new int[] {x, y};
    }

    int fault() {
        return fault;
    }

    int cell(int x, int y, int what) {
        if (!world.has(x, y)) {
            return -1;
        }
        switch (what) {
            case 0: return world.height(x, y);
            case 1: return world.houseAt(x, y);
            case 2: return world.personsAt(x, y);
            case 3: return world.touching(x, y);
            default: return -1;
        }
    }

    private boolean isHouse(int h) {
        return h >= 0 && h < world.houses.size();
    }

    private boolean isPerson(int p) {
        return p >= 0 && p < world.persons.size();
    }

    private boolean isHour(int hour) {
        return hour >= 0 && hour < world.suns.size();
    }

    int house(int h, int what) {
        if (!isHouse(h)) {
            throw new NoSuchElementException();
        }
        House house = world.houses.get(h);
        switch (what) {
            case 0: return house.x;
            case 1: return house.y;
            case 2: return house.high;
            case 3: return house.goods;
            case 4: return house.buried ? 1 : 0;
            case 5: return world.heirs(h, world.now());
            default: throw new NoSuchElementException();
        }
    }

    int person(int p, int what) {
        if (!isPerson(p)) {
            throw new NoSuchElementException();
        }
        Person person = world.persons.get(p);
        switch (what) {
            case 0: return person.x;
            case 1: return person.y;
            case 2: return person.wealth;
            case 3: return world.touching(person.x, person.y);
            case 4:
                int bits = 0;
                for (int s = 0; s < 4; s++) {
                    bits |= world.copy().go(p, s) == 0 ? 1 << s : 0;
                }
                return bits;
            default: throw new NoSuchElementException();
        }
    }

    int now(int what) {
        switch (what) {
            case 0: return world.hour;
            case 1: return world.now();
            case 2:
                int bits = 0;
                for (int h = 0; h < world.houses.size(); h++) {
                    bits |= world.houses.get(h).buried ? 1 << h : 0;
                }
                return bits;
            case 3: return Arrays.stream(world.stones).flatMapToInt(Arrays::stream).sum();
            case 4: return world.wealth();
            case 5: return world.sea;
            case 6: return world.steps;
            case 7: return world.laid;
            default: return -1;
        }
    }

    private void keep(World before) {
        undo.push(before);
        if (undo.size() > 8) {
            undo.removeLast();
        }
    }

    private int keepIf(boolean isDone, World before, int answer) {
        if (isDone) {
            keep(before);
        }
        return answer;
    }

    int go(int p, int side) {
        if (!isPerson(p) || side < 0 || side > 3) {
            return -1;
        }
        World before = world.copy();
        int why = world.go(p, side);
        return keepIf(why == 0, before, why);
    }

    int lay(int x, int y) {
        if (!world.has(x, y)) {
            return -1;
        }
        World before = world.copy();
        int why = world.lay(x, y);
        return keepIf(why == 0, before, why);
    }

    int tear(int x, int y) {
        if (!world.has(x, y)) {
            return -1;
        }
        World before = world.copy();
        int why = world.tear(x, y);
        return keepIf(why == 0, before, why);
    }

    int bury(int h) {
        if (!isHouse(h)) {
            return -1;
        }
        World before = world.copy();
        int why = world.bury(h);
        return keepIf(why == 0, before, why);
    }

    int hours(int n) {
        if (n < 1 || n > 60) {
            return -1;
        }
        World before = world.copy();
        int gone = world.pass(n);
        return keepIf(gone > 0, before, gone);
    }

    int undo() {
        if (undo.isEmpty()) {
            return -1;
        }
        world = undo.pop();
        return undo.size();
    }

    int shadow(int h, int hour) {
        return isHouse(h) && isHour(hour) ? world.shade(h, hour).size() : -1;
    }

    int heirs(int h, int hour) {
        return isHouse(h) && isHour(hour) ? world.heirs(h, hour) : -1;
    }

    int share(int p, int h, int hour, int what) {
        if (!isPerson(p) || !isHouse(h) || !isHour(hour) || what != 0 && what != 1) {
            throw new NoSuchElementException();
        }
        int bits = world.heirs(h, hour);
        boolean isTouched = (bits & 1 << p) != 0;
        return what == 0 ? isTouched ? 1 : 0 : isTouched ? Integer.bitCount(bits) : 1;
    }

    int best(int p, int h) {
        if (!isPerson(p) || !isHouse(h)) {
            return -1;
        }
        int best = -1;
        for (int hour = world.suns.size() - 1; hour >= 0; hour--) {
            if (share(p, h, hour, 0) == 1 && (best < 0 || share(p, h, hour, 1) <= share(p, h, best, 1))) {
                best = hour;
            }
        }
        return best;
    }

    int spare(int p, int h, int hour) {
        if (!isPerson(p) || !isHouse(h) || !isHour(hour)) {
            return -1;
        }
        if ((world.heirs(h, hour) & 1 << p) == 0) {
            return 0;
        }
        int fewest = -1;
        for (int[] c : world.shade(h, hour)) {
            World w = world.copy();
            int n = 0;
            while ((w.heirs(h, hour) & 1 << p) != 0 && w.lay(c[0], c[1]) == 0) {
                n++;
            }
            if ((w.heirs(h, hour) & 1 << p) == 0 && (fewest < 0 || n < fewest)) {
                fewest = n;
                spareAt = 8 * c[1] + c[0];
            }
        }
        return fewest;
    }

    int spareAt() {
        return spareAt;
    }

    int crowd(int h, int hour, int k) {
        if (!isHouse(h) || !isHour(hour) || k < 0 || k > 30) {
            return -1;
        }
        List<int[]> cells = world.shade(h, hour);
        int[] taker = new int[cells.size()];
        Arrays.fill(taker, -1);
        int most = 0;
        for (int p = 0; p < world.persons.size(); p++) {
            most += find(p, cells, k, taker, new boolean[cells.size()]) ? 1 : 0;
        }
        return most;
    }

    private boolean find(int p, List<int[]> cells, int k, int[] taker, boolean[] seen) {
        int[][] far = world.far(p);
        for (int c = 0; c < cells.size(); c++) {
            int steps = far[cells.get(c)[0]][cells.get(c)[1]];
            if (steps >= 0 && steps <= k && !seen[c]) {
                seen[c] = true;
                if (taker[c] < 0 || find(taker[c], cells, k, taker, seen)) {
                    taker[c] = p;
                    return true;
                }
            }
        }
        return false;
    }

    int near(int p, int h, int hour) {
        if (!isPerson(p) || !isHouse(h) || !isHour(hour)) {
            return -1;
        }
        int[][] far = world.far(p);
        return world.shade(h, hour).stream().mapToInt(c -> far[c[0]][c[1]]).filter(n -> n >= 0).min().orElse(-1);
    }

    int when() {
        List<Integer> bytes = new ArrayList<>(tape);
        tape.clear();
        int pairs = (bytes.size() - 1) / 2;
        if (bytes.size() != 1 + 2 * pairs || pairs < 1 || pairs > 6 || !isHouse(bytes.get(0))) {
            return -1;
        }
        int mask = 0;
        int bits = 0;
        boolean isBoth = false;
        for (int i = 0; i < pairs; i++) {
            int p = bytes.get(1 + 2 * i);
            int is = bytes.get(2 + 2 * i);
            if (!isPerson(p) || is > 1) {
                return -1;
            }
            isBoth |= (mask & 1 << p) != 0 && (bits >> p & 1) != is;
            mask |= 1 << p;
            bits |= is << p;
        }
        List<Integer> heirs = new ArrayList<>();
        int hours = 0;
        for (int hour = 0; hour < world.suns.size() && !isBoth; hour++) {
            int touched = world.heirs(bytes.get(0), hour);
            if ((touched & mask) == bits) {
                hours |= 1 << hour;
                heirs.add(touched);
            }
        }
        if (hours > 0) {
            ask = whom(heirs);
        }
        return hours;
    }

    private int whom(List<Integer> heirs) {
        int best = -1;
        long least = 99;
        for (int p = 0; p < world.persons.size(); p++) {
            int bit = 1 << p;
            long yes = heirs.stream().filter(t -> (t & bit) != 0).count();
            long left = Math.max(yes, heirs.size() - yes);
            if (left < least) {
                least = left;
                best = p;
            }
        }
        return best;
    }

    int ask() {
        return ask;
    }

    int longest() {
        int most = 0;
        for (int h = 0; h < world.houses.size(); h++) {
            for (int hour = 0; hour < world.suns.size(); hour++) {
                int n = world.shade(h, hour).size();
                if (n > most) {
                    most = n;
                    longestHouse = h;
                    longestHour = hour;
                }
            }
        }
        return most;
    }

    int longestAt(int what) {
        return what == 0 ? longestHouse : what == 1 ? longestHour : -1;
    }

    int slip(int p) {
        if (!isPerson(p)) {
            return -1;
        }
        Person person = world.persons.get(p);
        slip = person.name + " at " + person.x + " " + person.y + " has " + person.wealth;
        for (int h = 0; h < world.houses.size(); h++) {
            if (!world.houses.get(h).buried && world.touches(h, world.now(), person.x, person.y)) {
                slip += " of " + world.houses.get(h).name;
                break;
            }
        }
        return slip.length();
    }

    int byteAt(int i) {
        return i >= 0 && i < slip.length() ? slip.charAt(i) : -1;
    }

    int drawn(int n, int seed) {
        if (n < 1 || n > 60) {
            return -1;
        }
        World before = world.copy();
        int gone = world.drawn(n, seed);
        return keepIf(gone > 0, before, gone);
    }

    int odds(int p, int n, int seed) {
        if (!isPerson(p) || n < 1 || n > 30) {
            return -1;
        }
        int more = 0;
        for (int i = 0; i < n; i++) {
            World w = world.copy();
            w.drawn(20, seed + i);
            more += w.persons.get(p).wealth > world.persons.get(p).wealth ? 1 : 0;
        }
        return more;
    }

    int book(int lives) {
        if (lives != 0 && lives != 1) {
            return -1000;
        }
        cut(400);
        List<int[]> lines = new ArrayList<>();
        try {
            while (!isEnd()) {
                lines.add(bookLine(lines.size()));
                sign(";");
            }
            fault = 0;
        } catch (Fault f) {
            fault = f.kind;
            return -2 - f.place;
        }
        World w = world.copy();
        int right = 0;
        int why = 0;
        for (int[] line : lines) {
            why = live(w, line);
            if (why != 0) {
                break;
            }
            right++;
        }
        told = new int[] {why, right, w.hour, w.wealth()};
        if (lives == 1 && right > 0) {
            keep(world);
            world = w;
        }
        return why == 0 ? -1 : right;
    }

    private int[] bookLine(int ahead) {
        Token first = look();
        boolean isAct = Arrays.asList("lay", "tear", "bury", "hour").contains(first.text);
        need(isAct || first.isName(), first, 1);
        int p = isAct ? -1 : world.personNamed(first.text);
        need(isAct || p >= 0, first, 3);
        need(ahead < 40, first, 4);
        at++;
        switch (first.text) {
            case "lay":
                return new int[] {10, number(0, 7), number(0, 7)};
            case "tear":
                return new int[] {20, number(0, 7), number(0, 7)};
            case "bury":
                return new int[] {30, houseTold()};
            case "hour":
                return new int[] {40, number(1, 60)};
            default:
                return new int[] {0, p, side()};
        }
    }

    private int houseTold() {
        Token t = name();
        int h = world.houseNamed(t.text);
        need(h >= 0, t, 3);
        return h;
    }

    private static int live(World w, int[] line) {
        int why;
        switch (line[0]) {
            case 0:
                return w.go(line[1], line[2]);
            case 10:
                why = w.has(line[1], line[2]) ? w.lay(line[1], line[2]) : 9;
                break;
            case 20:
                why = w.has(line[1], line[2]) ? w.tear(line[1], line[2]) : 9;
                break;
            case 30:
                why = w.bury(line[1]);
                break;
            default:
                why = w.hour + line[1] > 400 ? 1 : 0;
                w.hour += why == 0 ? line[1] : 0;
                break;
        }
        return why == 0 ? 0 : line[0] + why;
    }

    int told(int what) {
        return told != null && what >= 0 && what < 4 ? told[what] : -1;
    }

    int sentence() {
        cut(200);
        ones = 0;
        try {
            IntPredicate read = cond(1);
            need(isEnd(), look(), 1);
            sentence = read;
            fault = 0;
            return ones;
        } catch (Fault f) {
            fault = f.kind;
            return -1 - f.place;
        }
    }

    private IntPredicate cond(int depth) {
        IntPredicate left = allOf(depth);
        while (look().is("or")) {
            at++;
            left = left.or(allOf(depth));
        }
        return left;
    }

    private IntPredicate allOf(int depth) {
        IntPredicate left = one(depth);
        while (look().is("and")) {
            at++;
            left = left.and(one(depth));
        }
        return left;
    }

    private IntPredicate one(int depth) {
        Token first = look();
        need(first.text.matches("not|\\(|shaded|poor|heir|of|wealth|x|y|number"), first, 1);
        need(ones < 20 && depth <= 8, first, 4);
        ones++;
        at++;
        switch (first.text) {
            case "not":
                return one(depth + 1).negate();
            case "(":
                IntPredicate inside = cond(depth + 1);
                sign(")");
                return inside;
            case "shaded":
                return p -> {
                    int bits = touchingPerson(p);
                    boolean is = false;
                    for (int h = 0; h < world.houses.size(); h++) {
                        is |= (bits & 1 << h) != 0 && !world.houses.get(h).buried;
                    }
                    return is;
                };
            case "poor":
                return p -> world.persons.get(p).wealth == 0;
            case "heir":
                return p -> world.persons.get(p).heir;
            case "of":
                int h = houseTold();
                return p -> (touchingPerson(p) & 1 << h) != 0;
            default:
                return compared(first.text);
        }
    }

    private int touchingPerson(int p) {
        return world.touching(world.persons.get(p).x, world.persons.get(p).y);
    }

    private IntPredicate compared(String subject) {
        need(look().text.matches("[<=>]"), look(), 1);
        int sign = "<=>".indexOf(take().text) - 1;
        int limit = number(0, 999);
        return p -> {
            Person person = world.persons.get(p);
            int n = subject.equals("wealth") ? person.wealth : subject.equals("x") ? person.x
                : subject.equals("y") ? person.y : p;
            return Integer.compare(n, limit) == sign;
        };
    }

    int said(int k) {
        if (sentence == null) {
            return -1;
        }
        List<Integer> all = new ArrayList<>();
        for (int p = 0; p < world.persons.size(); p++) {
            if (sentence.test(p)) {
                all.add(p);
            }
        }
        if (k == -1) {
            return all.size();
        }
        return k >= 0 && k < all.size() ? all.get(k) : -1;
    }

    boolean image(int k) {
        if (k != 0 && k != 1) {
            return false;
        }
        imageWorld[k] = world.copy();
        imageSentence[k] = sentence;
        return true;
    }

    boolean restore(int k) {
        if (k != 0 && k != 1 || imageWorld[k] == null) {
            return false;
        }
        world = imageWorld[k].copy();
        sentence = imageSentence[k];
        undo.clear();
        return true;
    }

    int count(int what) {
        switch (what) {
            case 0: return world.wide;
            case 1: return world.high;
            case 2: return world.houses.size();
            case 3: return world.persons.size();
            case 4: return world.suns.size();
            case 5: return tape.size();
            default: return -1;
        }
    }
}
