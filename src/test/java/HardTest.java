import java.lang.management.ManagementFactory;
import java.util.Random;

/** Any arguments in any state: no call throws, none changes what it refuses, and none takes room. */
public final class HardTest {
    private static final int[] EDGES = {Integer.MIN_VALUE, Integer.MIN_VALUE + 1, -65536, -100, -11, -10, -3, -2, -1, 0, 1,
        2, 3, 5, 6, 7, 9, 10, 11, 15, 16, 20, 23, 24, 29, 30, 31, 32, 33, 63, 64, 99, 100, 300, 301, 999, 1000, 1023, 1024,
        9999, 10000, 65535, 65536, 1 << 30, Integer.MAX_VALUE - 1, Integer.MAX_VALUE};
    private static final Check CHECK = new Check();
    private static final com.sun.management.ThreadMXBean THREADS =
            (com.sun.management.ThreadMXBean) ManagementFactory.getThreadMXBean();

    private final Random random;
    private final VerdictFirst x = new VerdictFirst();
    private int sum = 0;

    private HardTest(long seed) {
        random = new Random(seed);
    }

    public static void main(String[] args) {
        CHECK.about("any arguments");
        for (int seed = 0; seed < 2000; seed++) {
            HardTest test = new HardTest(seed);
            test.fill(seed % 5);
            for (int i = 0; i < 400; i++) {
                test.call(test.random.nextInt(32));
            }
        }
        CHECK.due("calls that threw", 0, 0);
        bytes();
        room();
        dearest();
        CHECK.end();
    }

    private int any() {
        return random.nextInt(3) == 0 ? EDGES[random.nextInt(EDGES.length)] : random.nextInt(16);
    }

    /** So many witnesses and verdicts under a text that uses every form. */
    private void fill(int many) {
        for (int i = 0; i < many * 2; i++) {
            x.witness(random.nextInt(65536), random.nextInt(4), 1 + random.nextInt(9), random.nextInt(100));
            x.verdict(random.nextInt(16), 1 + random.nextInt(9), random.nextInt(100));
        }
        x.by(Check.read(x, "fee price-many*2+hour/(who-1);hides kind=1 and not fact<8 or strength#3;adds fact=who;"
                + "rule 3 worth 5 bend 4 by 0,1 unless 2;rule 4 worth 9 bend 9 by 3;rule 15 worth 2 bend 0 unless 4;"));
    }

    private void call(int which) {
        switch (which) {
            case 0 -> sum += x.witness(any(), any(), any(), any());
            case 1 -> sum += x.verdict(any(), any(), any());
            case 2 -> sum += x.hour(any()) ? 1 : 0;
            case 3 -> sum += x.strike(any(), random.nextBoolean()) ? 1 : 0;
            case 4 -> sum += x.feed(random.nextInt(), any(), random.nextInt(), any(), random.nextInt());
            case 5 -> sum += x.end(any());
            case 6 -> sum += x.text();
            case 7 -> sum += x.fault(any());
            case 8 -> sum += x.by(any()) ? 1 : 0;
            case 9 -> sum += x.of(any(), any());
            case 10 -> sum += x.hear(any());
            case 11 -> sum += x.rise();
            case 12 -> sum += x.shown(any(), any());
            case 13 -> sum += x.known(any(), any());
            case 14 -> sum += x.follows(any(), any());
            case 15 -> sum += x.appeal(any(), any());
            case 16 -> sum += x.chain(any(), any(), any(), any());
            case 17 -> sum += x.weakest(any(), any());
            case 18 -> sum += x.defeats(any(), any());
            case 19 -> sum += x.least(any(), any());
            default -> callMore(which);
        }
    }

    private void callMore(int which) {
        switch (which) {
            case 20 -> sum += x.never();
            case 21 -> sum += x.together(any(), any()) ? 1 : 0;
            case 22 -> sum += x.amend(any(), any());
            case 23 -> sum += x.day(any(), any(), any(), any());
            case 24 -> sum += x.best(any(), any(), any(), any());
            case 25 -> sum += x.tell(any(), any(), random.nextBoolean());
            case 26 -> sum += x.kinds(any());
            case 27 -> sum += x.draws(any(), any(), any());
            case 28 -> sum += x.image();
            case 29 -> sum += random.nextInt(9) == 0 ? x.back() : 0;
            default -> sum += x.about(any());
        }
    }

    /** Whatever bytes a tape has, a text is read or has one of the six faults at a place of the tape. */
    private static void bytes() {
        CHECK.about("any bytes");
        Random random = new Random(77);
        Texts texts = new Texts(random);
        for (int i = 0; i < 20000; i++) {
            VerdictFirst x = new VerdictFirst();
            int length = 0;
            for (int j = 0; j < 15 && length >= 0; j++) {
                byte[] some = texts.some();
                int n = Math.min(20, some.length);
                byte[] row = java.util.Arrays.copyOf(some, 20);
                java.nio.ByteBuffer words = java.nio.ByteBuffer.wrap(row);
                x.feed(words.getInt(), words.getInt(), words.getInt(), words.getInt(), words.getInt());
                length = x.end(length + n);
            }
            boolean read = x.text() != -1;
            int fault = x.fault(0);
            int place = x.fault(1);
            boolean fits = read ? fault == 0 && place == -1 : fault >= 1 && fault <= 6 && place >= 0 && place <= length;
            if (!fits) {
                CHECK.due("fault " + fault + " at " + place + " of " + length, 0, 1);
            }
        }
    }

    /** Every row is made with the object: 512 calls of any kind make no other. */
    private static void room() {
        CHECK.about("room");
        VerdictFirst warm = full();
        calls(warm);
        VerdictFirst x = full();
        long before = THREADS.getThreadAllocatedBytes(Thread.currentThread().getId());
        calls(x);
        long after = THREADS.getThreadAllocatedBytes(Thread.currentThread().getId());
        // What the measuring itself makes is below this.
        CHECK.due("calls that make objects", after - before < 2000 ? 0 : after - before, 0);
    }

    private static VerdictFirst full() {
        VerdictFirst x = new VerdictFirst();
        for (int i = 0; i < 10; i++) {
            x.witness(1 << i, i % 4, 9 - i % 9, i);
        }
        for (int i = 0; i < 6; i++) {
            x.verdict(15 - i, i + 1, 10 * i);
        }
        Check.feed(x, "fee price+many;rule 3 worth 5 bend 4 by 0,1 unless 2;rule 14 worth 9 bend 9 by 3;");
        return x;
    }

    private static int calls(VerdictFirst x) {
        int sum = x.text() + (x.by(0) ? 1 : 0) + (x.strike(9, true) ? 1 : 0) + (x.strike(8, true) ? 1 : 0);
        sum += (x.strike(7, true) ? 1 : 0) + (x.strike(6, true) ? 1 : 0) + (x.hour(3) ? 1 : 0) + x.tell(0, 0, true);
        for (int i = 0; i < 20; i++) {
            int v = i % 6;
            sum += x.of(v, 0) + x.of(v, 1) + x.hear(v) + x.shown(i, v) + x.known(v, v) + x.follows(i, v);
            sum += x.appeal(v, v) + x.chain(i, v, 0, 0) + x.weakest(i, v) + x.defeats(i, v) + x.least(v, 0) + x.never();
            sum += (x.together(v, 0) ? 1 : 0) + x.amend(i, v) + x.day(v, 6, 2, 99) + x.best(v, 6, 2, 99) + x.kinds(v);
            sum += x.draws(i, 30, 1) + x.image() + x.back() + x.about(10 + v) + x.fault(0) + x.end(0) + x.rise();
        }
        return sum;
    }

    /** The dearest calls that can be, so that a run of them is still quick. */
    private static void dearest() {
        CHECK.about("the dearest calls");
        VerdictFirst x = new VerdictFirst();
        for (int i = 0; i < 10; i++) {
            x.witness(3, 0, 9, 1);
        }
        for (int i = 0; i < 6; i++) {
            x.verdict(15, 9, 99);
        }
        x.by(Check.read(x, "rule1worth8bend1unless0;".repeat(12)));
        for (int i = 0; i < 400; i++) {
            if (x.draws(i, 30, 0) != 0) {
                CHECK.due("draws", 1, 0);
            }
        }
        CHECK.due("never()", x.never(), 63);
    }
}
