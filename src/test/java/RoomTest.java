import java.lang.management.ManagementFactory;

/** All calls live in one room: an object is small, and its calls make nothing. */
public final class RoomTest {
    private static final com.sun.management.ThreadMXBean BEAN =
        (com.sun.management.ThreadMXBean) ManagementFactory.getThreadMXBean();

    private static long made() {
        return BEAN.getThreadAllocatedBytes(Thread.currentThread().getId());
    }

    private static int feedWord(ShadowHeirs x, int first, int second) {
        return x.feed(first, second, 0x20202020, 0x20202020, 0x20202020);
    }

    private static int calls(ShadowHeirs x) {
        int all = 0;
        for (int i = 0; i < 8; i++) {
            all += feedWord(x, 0x706F6F72, 0x20202020) + x.sentence() + x.said(-1) + x.said(0);
            all += feedWord(x, 0x686F7572, 0x20313B20) + x.book(0) + x.told(1);
            all += feedWord(x, 0x686F7572, 0x20313B20) + x.book(1) + x.fault();
            all += x.drawn(60, i) + x.odds(0, 30, i) + x.undo() + x.undo();
            all += x.go(0, i & 3) + x.lay(3, 3) + x.tear(3, 3) + x.bury(0) + x.hours(3);
            all += x.shadow(0, 0) + x.heirs(0, 0) + x.share(0, 0, 0, 1) + x.best(0, 0) + x.spare(0, 0, 0) + x.spareAt();
            all += x.crowd(0, 0, 30) + x.near(0, 0, 0) + x.longest() + x.longestAt(0) + x.slip(0) + x.byteAt(0);
            all += feedWord(x, 1, 0) + (x.end(3) ? 1 : 0) + x.when() + x.ask();
            all += (x.image(i & 1) ? 1 : 0) + (x.restore(i & 1) ? 1 : 0) + x.count(5) + x.cell(1, 1, 3);
            all += x.house(0, 5) + x.person(0, 4) + x.now(3);
        }
        return all;
    }

    public static void main(String[] args) {
        if (!BEAN.isThreadAllocatedMemorySupported() || !BEAN.isThreadAllocatedMemoryEnabled()) {
            System.out.println("RoomTest: this machine does not count what is made");
            return;
        }
        String text = "ground 8 8;house a 2 2 9 99;person p 1 1;person q 4 2;sun east 1;sun west 1;";
        calls(Due.made(text));
        ShadowHeirs x = Due.made(text);
        long before = made();
        int all = calls(x);
        long used = made() - before;
        Due.yes("something was answered", all != 0);
        Due.yes("calls made " + used + " bytes", used < 1000);
        before = made();
        x = new ShadowHeirs();
        used = made() - before;
        Due.same("fault", x.fault(), 0);
        Due.yes("an object is of " + used + " bytes", used < 20000);
        System.out.println("an object is of " + used + " bytes");
        Due.finish("RoomTest");
    }
}
