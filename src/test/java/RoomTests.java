import java.lang.management.ManagementFactory;

/** All calls of a run live in one room: an object's calls together may make next to nothing. */
public final class RoomTests {
    private static final long OBJECT_BYTES = 200_000, CALL_BYTES = 20_000;
    private static final com.sun.management.ThreadMXBean THREADS =
        (com.sun.management.ThreadMXBean) ManagementFactory.getThreadMXBean();
    private static final Due due = new Due();

    public static void main(String[] args) {
        due.part("room");
        play(new TrieVersions());
        long start = allocated();
        TrieVersions x = new TrieVersions();
        long made = allocated();
        long sum = play(x);
        long end = allocated();
        due.holds("a new object takes " + (made - start) + " bytes", made - start < OBJECT_BYTES);
        due.holds("512 calls take " + (end - made) + " bytes", end - made < CALL_BYTES);
        due.is("the sum of two equal runs", play(new TrieVersions()), sum);
        due.close();
    }

    private static long allocated() {
        return THREADS.getThreadAllocatedBytes(Thread.currentThread().getId());
    }

    private static long play(TrieVersions x) {
        long sum = x.scheme(1025, 30) + x.begin(0);
        for (int i = 0; i < 24; i++) {
            sum += x.set(i * 32, i);
        }
        sum += x.seal();
        for (int call = 0; call < 90; call++) {
            sum += x.put(1, call % 24 * 32, call) + x.begin(x.count(0) - 1) + x.set(0, call) + x.seal()
                + x.both(1, 2, 0);
            while (x.count(0) > 17) {
                sum += x.forget();
            }
            sum = 31 * sum + x.digest();
        }
        return sum;
    }
}
