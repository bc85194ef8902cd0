/** Promises 1 to 3 and 38: a new object, feed, end, count; and when the tape is emptied. */
public final class TapeTest {
    private static void newObject() {
        ShadowHeirs x = new ShadowHeirs();
        int[] counts = {5, 5, 0, 0, 0, 0};
        for (int what = 0; what < counts.length; what++) {
            Due.same("new: count " + what, x.count(what), counts[what]);
        }
        Due.same("count -1", x.count(-1), -1);
        Due.same("count 6", x.count(6), -1);
        int[] nows = {0, -1, 0, 0, 0, 0, 0, 0};
        for (int what = 0; what < nows.length; what++) {
            Due.same("new: now " + what, x.now(what), nows[what]);
        }
        for (int y = 0; y < 5; y++) {
            for (int cx = 0; cx < 5; cx++) {
                Due.same("bare", x.cell(cx, y, 0), 0);
                Due.same("no house", x.cell(cx, y, 1), -1);
                Due.same("nobody", x.cell(cx, y, 2), 0);
                Due.same("no shadow", x.cell(cx, y, 3), 0);
            }
        }
        Due.same("cell 5 0", x.cell(5, 0, 0), -1);
        Due.same("cell 0 5", x.cell(0, 5, 0), -1);
        Due.same("fault", x.fault(), 0);
        Due.same("undo", x.undo(), -1);
        Due.same("spareAt", x.spareAt(), -1);
        Due.same("ask", x.ask(), -1);
        Due.same("longest", x.longest(), 0);
        Due.same("longestAt 0", x.longestAt(0), -1);
        Due.same("longestAt 1", x.longestAt(1), -1);
        Due.same("byteAt", x.byteAt(0), -1);
        Due.same("told", x.told(0), -1);
        Due.same("said", x.said(-1), -1);
        Due.no("restore", x.restore(0));
    }

    private static void feedIsHighestFirst() {
        ShadowHeirs x = new ShadowHeirs();
        // the FAULT is at the first byte that is no blank: byte by byte it wanders along
        for (int i = 0; i < 20; i++) {
            int[] bytes = new int[20];
            java.util.Arrays.fill(bytes, ' ');
            bytes[i] = 200;
            Due.tape(x, bytes);
            Due.same("a sign at " + i, x.island(), -1 - i);
        }
        Due.same("feed", x.feed(0x3B202020, 0x20202020, 0x20202020, 0x20202020, 0x20202020), 20);
        Due.same("';' first", x.island(), -1);
        Due.same("feed", x.feed(0x2020203B, 0x20202020, 0x20202020, 0x20202020, 0x20202020), 20);
        Due.same("';' fourth", x.island(), -4);
        Due.same("feed", x.feed(0x20202020, 0x0A0A0A0A, 0x20202020, 0x20202020, 0x2020203B), 20);
        Due.same("';' last", x.island(), -20);
    }

    private static void feedHasABound() {
        ShadowHeirs x = new ShadowHeirs();
        for (int i = 1; i <= 47; i++) {
            Due.same("feed", x.feed(-1, -1, -1, -1, -1), 20 * i);
        }
        Due.same("feed over 940", x.feed(0, 0, 0, 0, 0), -1);
        Due.same("none came", x.count(5), 940);
        Due.yes("end 921", x.end(921));
        Due.same("feed to 941", x.feed(0, 0, 0, 0, 0), -1);
        Due.same("none came", x.count(5), 921);
        Due.yes("end 920", x.end(920));
        Due.same("feed to 940", x.feed(0, 0, 0, 0, 0), 940);
    }

    private static void endCuts() {
        ShadowHeirs x = new ShadowHeirs();
        Due.no("end -1", x.end(-1));
        Due.no("end least", x.end(Integer.MIN_VALUE));
        Due.no("end 1 of none", x.end(1));
        Due.yes("end 0 of none", x.end(0));
        x.feed(0, 0, 0, 0, 0);
        Due.no("end 21", x.end(21));
        Due.no("end most", x.end(Integer.MAX_VALUE));
        Due.same("stays", x.count(5), 20);
        Due.yes("end 20", x.end(20));
        Due.same("all", x.count(5), 20);
        Due.yes("end 7", x.end(7));
        Due.same("seven", x.count(5), 7);
        Due.no("end 8", x.end(8));
        Due.same("behind seven", x.feed(0, 0, 0, 0, 0), 27);
        Due.yes("end 0", x.end(0));
        Due.same("none", x.count(5), 0);
    }

    private static void tapeIsEmptied() {
        ShadowHeirs x = new ShadowHeirs();
        Due.tape(x, "ground 3 3;");
        Due.same("island", x.island(), 1);
        Due.same("emptied", x.count(5), 0);
        Due.tape(x, "ground 9 9;");
        Due.same("island", x.island(), -8);
        Due.same("emptied with a FAULT", x.count(5), 0);
        Due.tape(x, "lay 0 0;");
        Due.same("another lives", x.book(2), -1000);
        Due.same("the tape stays", x.count(5), 8);
        Due.same("book", x.book(0), -1);
        Due.same("emptied", x.count(5), 0);
        Due.tape(x, "lay 0 8;");
        Due.same("book", x.book(0), -2 - 6);
        Due.same("emptied with a FAULT", x.count(5), 0);
        Due.tape(x, "poor");
        Due.same("sentence", x.sentence(), 1);
        Due.same("emptied", x.count(5), 0);
        Due.tape(x, "poor poor");
        Due.same("sentence", x.sentence(), -6);
        Due.same("emptied with a FAULT", x.count(5), 0);
        Due.tape(x, "what");
        Due.same("when", x.when(), -1);
        Due.same("emptied, not as told", x.count(5), 0);
        Due.island(x, "house a 0 0 3 5;person b 1 0;sun east 1;");
        Due.tape(x, 0, 0, 1);
        Due.same("when", x.when(), 1);
        Due.same("emptied", x.count(5), 0);
    }

    public static void main(String[] args) {
        newObject();
        feedIsHighestFirst();
        feedHasABound();
        endCuts();
        tapeIsEmptied();
        Due.finish("TapeTest");
    }
}
