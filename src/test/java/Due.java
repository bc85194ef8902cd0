import java.util.NoSuchElementException;

/** What the tests share: texts put on the tape, answers compared, a count of the wrong ones. */
final class Due {
    private static int wrong = 0;
    private static int asked = 0;
    private static String heading = "";

    private Due() {
    }

    /** A throwing call, to be looked at by {@link #noSuch}. */
    interface Call {
        int answer();
    }

    /** What is asked from here on belongs under this heading, which is printed ahead of its first wrong answer. */
    static void under(String text) {
        heading = text;
    }

    static int asked() {
        return asked;
    }

    private static void tellWrong(String text) {
        wrong++;
        if (!heading.isEmpty()) {
            System.out.println("[" + heading + "]");
            heading = "";
        }
        System.out.println(text);
    }

    static void same(String what, long got, long want) {
        asked++;
        if (got != want) {
            tellWrong(what + " answered " + got + ", due is " + want);
        }
    }

    static void same(String what, String got, String want) {
        asked++;
        if (!got.equals(want)) {
            tellWrong(what + " answered\n  " + got + "\ndue is\n  " + want);
        }
    }

    static void yes(String what, boolean got) {
        same(what, got ? 1 : 0, 1);
    }

    static void no(String what, boolean got) {
        same(what, got ? 1 : 0, 0);
    }

    static void noSuch(String what, Call call) {
        asked++;
        try {
            int got = call.answer();
            tellWrong(what + " answered " + got + ", due is a NoSuchElementException");
        } catch (NoSuchElementException e) {
            return;
        }
    }

    /** The tape holds this text and nothing else. */
    static void tape(ShadowHeirs x, String text) {
        int[] bytes = new int[text.length()];
        for (int i = 0; i < bytes.length; i++) {
            bytes[i] = text.charAt(i);
        }
        tape(x, bytes);
    }

    static void tape(ShadowHeirs x, int... bytes) {
        x.end(0);
        int[] numbers = new int[(bytes.length + 19) / 20 * 5];
        for (int i = 0; i < bytes.length; i++) {
            numbers[i / 4] |= (bytes[i] & 255) << 24 - i % 4 * 8;
        }
        for (int i = 0; i < numbers.length; i += 5) {
            x.feed(numbers[i], numbers[i + 1], numbers[i + 2], numbers[i + 3], numbers[i + 4]);
        }
        if (!x.end(bytes.length)) {
            throw new IllegalStateException("a text too long for the tape");
        }
    }

    static int island(ShadowHeirs x, String text) {
        tape(x, text);
        return x.island();
    }

    static int book(ShadowHeirs x, String text, int lives) {
        tape(x, text);
        return x.book(lives);
    }

    static int sentence(ShadowHeirs x, String text) {
        tape(x, text);
        return x.sentence();
    }

    static ShadowHeirs made(String text) {
        ShadowHeirs x = new ShadowHeirs();
        int lines = island(x, text);
        if (lines < 0) {
            throw new IllegalStateException("a FAULT in the text of a test at " + (-1 - lines) + ": " + text);
        }
        return x;
    }

    static String slip(ShadowHeirs x, int p) {
        StringBuilder text = new StringBuilder();
        int size = x.slip(p);
        for (int i = 0; i < size; i++) {
            text.append((char) x.byteAt(i));
        }
        return text.toString();
    }

    static String times(String text, int n) {
        return text.repeat(n);
    }

    /**
     * All that is so, for comparing before with after, in as few calls as will do: an object has 512 in all, of which
     * this takes some 70 on a ground of 6 by 4 and some 180 at most.
     */
    static String state(ShadowHeirs x) {
        StringBuilder all = new StringBuilder();
        int wide = x.count(0);
        int high = x.count(1);
        int houses = x.count(2);
        int persons = x.count(3);
        int hours = x.count(4);
        all.append(wide).append(" by ").append(high).append(", hours: ").append(hours).append('\n');
        for (int what = 0; what <= 7; what++) {
            all.append(x.now(what)).append(' ');
        }
        for (int h = 0; h < houses; h++) {
            all.append("\n  house ").append(h).append(": ");
            for (int what = 0; what <= 5; what++) {
                all.append(x.house(h, what)).append(' ');
            }
            for (int hour = 0; hour < hours; hour++) {
                all.append(x.shadow(h, hour)).append(' ');
            }
        }
        for (int p = 0; p < persons; p++) {
            all.append("\n  person ").append(p).append(": ");
            for (int what = 0; what <= 4; what++) {
                all.append(x.person(p, what)).append(' ');
            }
        }
        for (int y = 0; y < high; y++) {
            all.append("\n  ");
            for (int cx = 0; cx < wide; cx++) {
                all.append(x.cell(cx, y, 0)).append(' ');
            }
        }
        return all.toString();
    }

    static void finish(String test) {
        System.out.println(test + ": " + asked + " answers, " + wrong + " of them wrong");
        if (wrong != 0 || asked == 0) {
            System.exit(1);
        }
    }
}
