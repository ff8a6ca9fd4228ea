import java.lang.management.ManagementFactory;

/** All calls live in one room: an object is of a small size, and no call makes anything more. */
final class RoomTest {
    private static final com.sun.management.ThreadMXBean BEAN = (com.sun.management.ThreadMXBean) ManagementFactory.getThreadMXBean();
    private static long sum = 0;

    public static void main(String[] args) {
        EveryTwentyMinutes x = new EveryTwentyMinutes();
        for (int i = 0; i < 3; i++) {
            eachCall(x);
            made();
        }
        long before = made();
        for (int i = 0; i < 5; i++) eachCall(x);
        long calls = made() - before;
        before = made();
        EveryTwentyMinutes y = new EveryTwentyMinutes();
        long object = made() - before;
        sum += y.count(0);
        boolean good = calls == 0 && object < 16000;
        System.out.println((good ? "small enough: " : "too large: ") + calls + " bytes by calls, " + object + " by an object");
        if (!good) System.exit(1);
    }

    private static long made() {
        return BEAN.getThreadAllocatedBytes(Thread.currentThread().getId());
    }

    private static void eachCall(EveryTwentyMinutes x) {
        sum += x.image() + x.restore();
        for (int i = 0; i < 7; i++) sum += x.couple(i % 6, i, 20 * i) + x.feed('s') + x.row(40 * i);
        sum += x.hall() + x.feed('s') + x.feed('4') + x.feed(';') + x.hall();
        for (int i = 0; i < 9; i++) sum += x.slack(i) + x.pulls(6) + x.rests(1);
        sum += x.rooms(1) + x.weds(1) + x.back() + x.back();
        for (int i = -2; i < 8; i++) {
            sum += x.coupleOf(0, i) + x.order(i) + x.free(i) + x.when(i, 1) + x.waits(i) + x.all(i) + x.met(i) + x.best(i) + x.bestSlack(i) + x.fountain(i)
                + x.fountains(i) + x.inside(40 * i) + x.price(40 * i) + x.odds(7, 3, 40 * i, 0) + x.two(0, i) + x.whatWas(1, i) + x.longest(i) + x.mean(i)
                + x.lots(20, i, 0) + x.count(i);
        }
        sum += x.pull() + x.rest() + x.saved() + x.can(3, 40, 300) + x.crowded() + x.early() + x.worst() + x.idle() + x.span() + x.swap() + x.turned() + x.shift()
            + x.judge() + x.clear();
    }
}
