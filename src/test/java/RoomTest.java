import java.lang.management.ManagementFactory;

/** All calls of a run live in one room: an object is made small, and its dearest calls make nothing more. */
public final class RoomTest {
    private static final Check check = new Check("RoomTest");
    private static final com.sun.management.ThreadMXBean MEMORY =
            (com.sun.management.ThreadMXBean) ManagementFactory.getThreadMXBean();

    public static void main(String[] args) {
        String ten = "h5,3;p0,0,0;f5,0,9;r10,8,0;c15,0,0;g20,7,0;p25,0,0;f30,0,3;c0,0,0;g30,30,30;r0,30,0;";
        Check.told(ten).whole(8);
        calls(Check.told(ten));
        long before = allocated();
        HandsInBook x = new HandsInBook();
        long made = allocated() - before;
        check.holds("an object takes " + made + " bytes", made < 60000);
        Check.feed(x, ten);
        x.book();
        before = allocated();
        calls(x);
        made = allocated() - before;
        check.holds("calls take " + made + " bytes", made < 4000);
        check.finish();
    }

    private static long allocated() {
        return MEMORY.getThreadAllocatedBytes(Thread.currentThread().getId());
    }

    private static void calls(HandsInBook x) {
        for (int i = 0; i < 40; i++) {
            x.row(i % 8, i % 3, i);
            x.law(0, i);
            x.whole(8);
            x.without(i % 10);
            x.least(1 + i % 10);
            x.row(0, 0, 10);
            x.who(i % 10, i % 6, 0, 0, 10);
            x.lost(i % 11, i % 11, 0);
            x.drawn(20, 1 + i, 0);
            x.image(i % 2);
            x.ask(i % 10, 0);
            x.feed(104);
            x.say();
            x.book();
        }
    }
}
