import java.lang.management.ManagementFactory;

/** All calls of a run live in one room: asking makes no object, and an object of the class is small. */
public final class RoomTest {
    private static final com.sun.management.ThreadMXBean THREADS =
            (com.sun.management.ThreadMXBean) ManagementFactory.getThreadMXBean();
    /** Keeps what is asked from being left out. */
    private static long sum = 0;

    public static void main(String[] args) {
        HighWater x = Due.bay(4);
        for (int i = 0; i < 6; i++) {
            x.island(i, 30 + i, 5, i);
        }
        x.film(0, 0);
        for (int k = 0; k < 50; k++) {
            askAll(x);
        }
        long before = THREADS.getThreadAllocatedBytes(Thread.currentThread().getId());
        for (int k = 0; k < 50; k++) {
            askAll(x);
        }
        long made = THREADS.getThreadAllocatedBytes(Thread.currentThread().getId()) - before;
        // 50 times some 40 calls: an object by each of a sort of calls would be 800 bytes at the least, by a WAY a million.
        Due.isTrue("bytes made by asking: " + made, made < 700);
        HighWater[] many = new HighWater[100];
        before = THREADS.getThreadAllocatedBytes(Thread.currentThread().getId());
        for (int k = 0; k < 100; k++) {
            many[k] = new HighWater();
        }
        made = THREADS.getThreadAllocatedBytes(Thread.currentThread().getId()) - before;
        Due.isTrue("bytes of an object: " + made / 100, made / 100 < 7000);
        Due.isTrue("asked", sum != 0);
        Due.end();
    }

    private static void askAll(HighWater x) {
        for (int p = 0; p < 4; p++) {
            sum += x.go(p, 1, p) + x.at(p, 1) + x.gain(p, 1) + x.costs(p, 1) + x.year(p, 0) + x.best(p, 1, 0);
            sum += x.spoil(p, 1, 0) + x.ransom(p, 3 - p, 1) + x.share(p, 1, 0, 1) + x.holds(p, 0, 0);
            sum += x.drawn(p, p, 1, 1) + x.mean(p, 1, 0, 40, 0) + x.laws(p, 1, 0) + x.wise(p);
        }
        sum += x.tide(0, 4) + x.height(0) + x.count(0) + x.feed(1, 65, 0, 0, 0, 0) + x.text() + x.force(0);
        sum += x.asks(0, 1, 1, 1, 1) + x.told(0, 0) + x.then(0, 0, 0) + x.joined(0, 1) + x.whose(0, 0) + x.rest(0);
        sum += x.ways(0, 0) + x.family(15, 0, 0) + x.unfair(0, 0, 1) + x.dear(3) + x.judge(0, 0) + x.when(0);
        sum += x.were(0, 0, 0, 0) + x.film(0, 0) + x.image() + x.back() + x.sheet(1, 2, 40) + x.cell(1, 0, 1);
        sum += x.copy(1, 0, 1, 3, 4) + x.islandsBy(1, 2, 0, 6) + x.taken(12, 0) + x.come();
    }
}
