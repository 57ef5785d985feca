import java.lang.management.ManagementFactory;

/** All calls of a run live in one room: an object is small, and its calls make next to nothing. */
public final class RoomTest {
    private static final long MOST_FOR_ONE = 60000;

    public static void main(String[] args) {
        var threads = (com.sun.management.ThreadMXBean) ManagementFactory.getThreadMXBean();
        long self = Thread.currentThread().getId();
        TeaTrolley warm = made();
        calls(warm);
        long before = threads.getThreadAllocatedBytes(self);
        TeaTrolley x = new TeaTrolley();
        long one = threads.getThreadAllocatedBytes(self) - before;
        Due.is("bytes of one object: " + one, one < MOST_FOR_ONE, true);
        x = made();
        before = threads.getThreadAllocatedBytes(self);
        calls(x);
        long all = threads.getThreadAllocatedBytes(self) - before;
        Due.is("bytes of some 400 calls: " + all, all < MOST_FOR_ONE, true);
        Due.close("RoomTest");
    }

    private static TeaTrolley made() {
        TeaTrolley x = Due.office("sk60;dx0;dx1;dx2;dx3;df1x4;df2x5;df3x6;dx7", "76543210");
        Due.tell(x, 1, "y:m>9&[h-k]*2<n?[m+f]*2;y:!(k<9)?m/2+n;y:d", 0);
        x.law(0);
        return x;
    }

    private static void calls(TeaTrolley x) {
        x.feed(0x64643b64, 0x64643b64, 0, 0, 0);
        for (int i = 0; i < 10; i++) {
            x.seen(i % 8, 30 + i, i % 3 > 0);
            for (int sort = 0; sort < 3; sort++) {
                x.fault(sort);
            }
            x.day();
            x.fill(0, 30 + i);
            x.decades(60, i);
            x.best(0);
            x.shortest(255 - i, 1);
            x.seat(0);
            x.fits(i - 1);
            x.ask(20 + i);
            x.crumbs(20 + i, -1);
            x.rests(0, 1, -1);
            x.thaw(i % 8);
            x.odds(i % 8, 10 * i);
            for (int what = 0; what < 6; what++) {
                x.all(what);
            }
            x.image();
            x.undo();
            x.back();
            x.text(0);
        }
    }
}
