import java.lang.management.ManagementFactory;
import java.util.Random;

/**
 * What a run makes stays small: an object is made of few rows, and its calls make nothing at all.
 * Every call is made with all sorts of arguments too: none may throw, and none may run long.
 */
public final class RoomTest {
    private static int wrong = 0;

    static void check(boolean good, String what) {
        if (!good) {
            wrong++;
            System.out.println("RoomTest: " + what);
        }
    }

    static long made() {
        return ((com.sun.management.ThreadMXBean) ManagementFactory.getThreadMXBean()).getCurrentThreadAllocatedBytes();
    }

    /** Numbers at and around all bounds of the document. */
    static final int[] NUMBERS = {Integer.MIN_VALUE, -4097, -4096, -129, -128, -33, -13, -3, -2, -1, 0, 1, 2, 3, 4, 5, 6, 7, 8, 9,
        11, 12, 13, 14, 15, 16, 25, 26, 31, 32, 33, 63, 64, 127, 128, 199, 200, 201, 255, 256, 512, 4032, 4094, 4095, 4096, 4097,
        Integer.MAX_VALUE};

    static int pick(Random random) { return NUMBERS[random.nextInt(NUMBERS.length)]; }

    static void every(DecoderForge x, int which, int a, int b, int c, int d) {
        switch (which) {
            case 0: x.feed((long) a << 32 | b, c); break;
            case 1: x.wipe(); break;
            case 2: x.text(); break;
            case 3: x.formOf(a, b); break;
            case 4: x.named(a, b, c); break;
            case 5: x.ofKind(a); break;
            case 6: x.means(a); break;
            case 7: x.fits(a); break;
            case 8: x.over(a, b); break;
            case 9: x.many(a); break;
            case 10: x.covers(a, b); break;
            case 11: x.next(a, b); break;
            case 12: x.clash(a, b); break;
            case 13: x.odd(a); break;
            case 14: x.greedy(a, b); break;
            case 15: x.least(a, b); break;
            case 16: x.leaf(a, b); break;
            case 17: x.field(a, b, c); break;
            case 18: x.taken(a, b, c); break;
            case 19: x.laid(a, b, c, d); break;
            case 20: x.hold(a, b); break;
            case 21: x.make(a); break;
            case 22: x.write(a); break;
            case 23: x.written(a); break;
            case 24: x.read(); break;
            case 25: x.put(a, b); break;
            case 26: x.cell(a); break;
            case 27: x.copy(a, b, c); break;
            case 28: x.holders(a); break;
            case 29: x.walk(a, b, c); break;
            case 30: x.halts(a); break;
            case 31: x.run(a, b); break;
            case 32: x.met(a); break;
            case 33: x.order(a); break;
            case 34: x.costs(a); break;
            case 35: x.undo(); break;
            case 36: x.image(); break;
            case 37: x.back(); break;
            case 38: x.count(a); break;
            default: x.refused(a); break;
        }
    }

    static final String[] TEXTS = {PromiseTest.ISA, PromiseTest.WAYS,
        "pa:0...........;pb:.0..........;pc:..0.........,;", "gx:WXYZwxyz0123", "cz:wwwwWWWW....,w<W,W#0,w/3"};

    static void one(DecoderForge x, Random random) {
        if (random.nextInt(12) == 0) {
            x.wipe();
            PromiseTest.feed(x, TEXTS[random.nextInt(TEXTS.length)]);
            x.text();
        } else {
            every(x, random.nextInt(40), pick(random), pick(random), pick(random), pick(random));
        }
    }

    public static void main(String[] args) {
        Random random = new Random(7);
        for (int i = 0; i < 200; i++) {
            DecoderForge x = new DecoderForge();
            for (int k = 0; k < 512; k++) one(x, random);
        }
        long before = made();
        DecoderForge x = new DecoderForge();
        long object = made() - before;
        check(object < 100_000, "an object takes " + object + " bytes");
        before = made();
        for (int k = 0; k < 512; k++) one(x, random);
        long calls = made() - before;
        check(calls < 4_000, "512 calls take " + calls + " bytes");
        System.out.println("RoomTest: an object " + object + " bytes, 512 calls " + calls + ", " + wrong + " not as due");
        if (wrong != 0) System.exit(1);
    }
}
