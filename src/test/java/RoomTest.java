import java.lang.management.ManagementFactory;

/** What a whole run makes: all calls of one run live in one room, so that no call may make much. */
public final class RoomTest {
    private static final Checks C = new Checks();
    private static final com.sun.management.ThreadMXBean THREADS =
            (com.sun.management.ThreadMXBean) ManagementFactory.getThreadMXBean();
    private static final String TEXT = Shores.things(10) + Shores.wishes(12, 10) + "dark had;room 9-sea/20;content worth>9;calm 3;";
    // A new object, its ladder too, takes some 80,000 bytes; the room is some 7.3 million fields and elements.
    private static final long ENOUGH = 200000;

    public static void main(String[] args) {
        C.about("LANGUAGE.md, rule 12");
        int[] text = Checks.bytesOf(TEXT);
        int[] numbers = new int[text.length / 4 + 5];
        for (int i = 0; i < text.length; i++) {
            numbers[i / 4] |= text[i] << 24 - 8 * (i % 4);
        }
        long sum = run(numbers, text.length);
        long before = THREADS.getCurrentThreadAllocatedBytes();
        sum += run(numbers, text.length);
        long made = THREADS.getCurrentThreadAllocatedBytes() - before;
        C.due("512 calls answered something", sum != 0, true);
        C.due("512 calls made " + made + " bytes; few enough", made < ENOUGH, true);
        C.end();
    }

    /** 512 calls, of each kind some; what they answer, together. */
    private static long run(int[] numbers, int length) {
        WishSea x = new WishSea();
        long sum = 0;
        int calls = 0;
        for (int kind = 0; calls < 512; kind++) {
            if (kind % 5 == 0) {
                for (int i = 0; i * 4 < length; i += 5) {
                    x.feed(numbers[i], numbers[i + 1], numbers[i + 2], numbers[i + 3], numbers[i + 4]);
                    calls++;
                }
                sum += (x.end(length) ? 1 : 0) + x.shore() + x.say(kind % 12) + x.days(3) + x.rivals(3, 0);
                calls += 5;
            }
            sum += x.say(kind % 12) + x.ladder(8) + x.fewest(kind, 0) + x.most(8, 0) + x.ends(0) + x.days(2) + x.night()
                    + x.kept(0, 0) + x.has(7) + x.wish(0, 5) + x.before(0) + x.image() + (x.undo() ? 1 : 0) + x.stop() + x.value(0);
            calls += 15;
        }
        return sum;
    }
}
