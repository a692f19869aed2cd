import java.lang.management.ManagementFactory;
import java.util.Random;

/** All calls of a run live in one room: an object is made once, and no call makes another one. */
public final class RoomTest {
    private static final long MOST_BYTES_OF_AN_OBJECT = 20_000;
    private static final long MOST_BYTES_OF_ALL_CALLS = 4_000;

    private static long sum = 0;

    public static void main(String[] args) {
        for (int seed = 0; seed < 20; seed++) {
            run(seed);
        }
        long start = bytes();
        PaperDolls x = new PaperDolls();
        long made = bytes() - start;
        sum += x.digest();
        long before = bytes();
        long calls = 0;
        for (int what = 0; what < 36; what++) {
            call(x, what, what % 8, what % 4, 1 + what % 9);
            calls++;
        }
        for (int n = 0; n < 470; n++) {
            call(x, n * 7 % 36, n % 8, n % 4, 1 + n % 9);
            calls++;
        }
        long used = bytes() - before;
        System.out.println(made + " bytes for an object, " + used + " for " + calls + " calls (" + sum + ")");
        boolean fine = made <= MOST_BYTES_OF_AN_OBJECT && used <= MOST_BYTES_OF_ALL_CALLS;
        System.out.println(fine ? "it fits the room" : "too much for the room");
        System.exit(fine ? 0 : 1);
    }

    private static long bytes() {
        return ((com.sun.management.ThreadMXBean) ManagementFactory.getThreadMXBean()).getCurrentThreadAllocatedBytes();
    }

    /** All numbers there are, so that a call that throws is seen: the test ends with it. */
    private static void run(int seed) {
        Random random = new Random(seed);
        PaperDolls x = new PaperDolls();
        for (int n = 0; n < 512; n++) {
            call(x, random.nextInt(36), odd(random), odd(random), odd(random));
        }
    }

    private static int odd(Random random) {
        switch (random.nextInt(6)) {
            case 0: return random.nextInt();
            case 1: return random.nextBoolean() ? Integer.MIN_VALUE : Integer.MAX_VALUE;
            default: return random.nextInt(12) - 1;
        }
    }

    private static void call(PaperDolls x, int what, int i, int a, int b) {
        switch (what) {
            case 0: sum += i == 0 ? x.doll(a) : 0; break;
            case 1: sum += x.child(a); break;
            case 2: sum += x.piece(i, a, b); break;
            case 3: sum += x.type(i + 'a'); break;
            case 4: sum += x.clear(); break;
            case 5: sum += x.read(); break;
            case 6: sum += x.puts(i); break;
            case 7: sum += x.takes(i); break;
            case 8: sum += x.mends(i); break;
            case 9: sum += x.undo(); break;
            case 10: sum += x.of(i, a); break;
            case 11: sum += x.seen(a); break;
            case 12: sum += x.can(); break;
            case 13: sum += x.off(); break;
            case 14: sum += x.going(i); break;
            case 15: sum += x.outfits(a); break;
            case 16: sum += x.lean(a); break;
            case 17: sum += x.days(); break;
            default: callMore(x, what, i, a, b); break;
        }
    }

    private static void callMore(PaperDolls x, int what, int i, int a, int b) {
        switch (what) {
            case 18: sum += x.spared(); break;
            case 19: sum += x.few(a); break;
            case 20: sum += x.note(a, b, i); break;
            case 21: sum += x.mark(i, b, a, b); break;
            case 22: sum += x.forget(a); break;
            case 23: sum += x.is(); break;
            case 24: sum += x.look(); break;
            case 25: sum += x.kinds(i); break;
            case 26: sum += x.ask(i); break;
            case 27: sum += x.two(a); break;
            case 28: sum += x.luck(a); break;
            case 29: sum += x.evenings(i, b); break;
            case 30: sum += x.part(a); break;
            case 31: sum += x.image(a); break;
            case 32: sum += x.from(a); break;
            case 33: sum += x.status(a); break;
            case 34: sum += x.count(a); break;
            default: sum += x.digest(); break;
        }
    }
}
