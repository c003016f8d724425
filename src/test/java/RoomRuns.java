import java.lang.management.ManagementFactory;

/**
 * All calls of one run live in one room: a call makes nothing, the constructor little. The dearest calls, too,
 * on the longest traces, answer 512 times; calls of the most unlike numbers never throw.
 */
public final class RoomRuns {
    private static int wrong = 0;

    private static void check(boolean is, String what) {
        if (!is) {
            wrong++;
            System.out.println(what);
        }
    }

    private static final com.sun.management.ThreadMXBean BEAN =
        (com.sun.management.ThreadMXBean) ManagementFactory.getThreadMXBean();

    private static long allocated() {
        return BEAN.getThreadAllocatedBytes(Thread.currentThread().getId());
    }

    /** "(r0+37*99)6 r0+1*6", 600 lines in all. */
    private static void feedLongest(SkewedWays x) {
        x.feed(0x2872302B, 0x33372A39, 0x39293620, 0x72302B31, 0x2A362020);
    }

    private static int one(SkewedWays x, int which, int a, int b, int c, int d) {
        boolean is = (a & 1) == 0;
        switch (which) {
            case 0: return x.feed(a, b, c, d, a);
            case 1: return x.end(a);
            case 2: return x.text();
            case 3: return x.fault(a);
            case 4: return x.ask(a);
            case 5: return x.write(a, b) ? 1 : 0;
            case 6: return x.pin(a, (b & 1) == 0) ? 1 : 0;
            case 7: return x.clean(a);
            case 8: return x.leave(a);
            case 9: return x.cool();
            case 10: return x.trade(a, b) ? 1 : 0;
            case 11: return x.empty();
            case 12: return x.shape(a, b);
            case 13: return x.family(a);
            case 14: return x.mask(a, b, c);
            case 15: return x.depth(a) ? 1 : 0;
            case 16: return x.run(a);
            case 17: return x.undo();
            case 18: return x.tell(a) ? 1 : 0;
            case 19: return x.gather(a);
            case 20: return x.collect(a);
            case 21: return x.scatter(a) ? 1 : 0;
            case 22: return x.is(a);
            case 23: return x.masked(a, b);
            case 24: return x.index(a, b);
            case 25: return x.slot(a, b, c);
            case 26: return x.where(a);
            case 27: return x.memory(a);
            case 28: return x.value(a);
            case 29: return x.aged(a);
            case 30: return x.book(a, b);
            case 31: return x.stale();
            case 32: return x.rank(a, b);
            case 33: return x.twins(a);
            case 34: return x.twin(a, b);
            case 35: return x.together(a, b);
            case 36: return x.spread(a, b, c, d);
            case 37: return x.even(a);
            case 38: return x.evenAll();
            case 39: return x.scattered(a, b, c);
            case 40: return x.worst(a, b);
            case 41: return x.flipped(a, b, c);
            case 42: return x.bestFlip(a);
            case 43: return x.sweep(a, b, c);
            case 44: return x.holds(a, b);
            case 45: return x.pairs(a);
            case 46: return x.shares(a);
            case 47: return x.room(a);
            case 48: return x.crowd(a, (b & 1) == 0);
            case 49: return x.gathered(a);
            case 50: return x.fitting();
            case 51: return x.fittingPlainly();
            case 52: return x.pieces();
            case 53: return x.piece(a);
            case 54: return x.reach(a, b);
            case 55: return x.candidate(a, b);
            case 56: return x.victim(a);
            case 57: return x.moved(a, b);
            case 58: return x.length(a);
            case 59: return x.step(a, b);
            case 60: return x.wide(a);
            case 61: return x.writes(a);
            case 62: return x.working(a, b);
            case 63: return x.hottest(a, (b & 1) == 0);
            case 64: return x.hits(a);
            case 65: return x.misses(a, b);
            case 66: return x.deepest(a);
            case 67: return x.suited(a);
            case 68: return x.ideal(a);
            case 69: return x.distance(a, b);
            case 70: return x.recent(a, b);
            case 71: return x.conflicts(a);
            case 72: return (int) x.ratio();
            case 73: return x.image();
            case 74: return x.back();
            default: return x.about(a);
        }
    }

    private static SkewedWays filled(boolean wide) {
        SkewedWays x = new SkewedWays();
        for (int i = 0; i < 4; i++) {
            feedLongest(x);
            check(x.text() == i && x.length(i) == 600, "the longest trace");
        }
        if (wide) {
            x.shape(4, 4);
            x.family(2);
            x.depth(3);
        }
        x.collect(0);
        x.run(0);
        return x;
    }

    /** Each call alone, 480 times on one object, by numbers that are small, edges or huge. */
    private static void callsMakeNothing() {
        int[] some = {0, 1, 2, 3, -1, 4, 5, 9, 15, 16, 20, 23, 24, 31, 32, 63, 64, 65, 99, 100, 300, 599, 600, 1000, 1023, 1024,
            9999, 10000, -9999, -10000, 30046, 30047, Integer.MIN_VALUE, Integer.MAX_VALUE, Integer.MIN_VALUE + 1};
        int draw = 1;
        long[] made = new long[2];
        for (int turn = 0; turn < 2; turn++) {
            for (int which = 0; which < 76; which++) {
                SkewedWays x = filled(which % 3 != 0);
                long ahead = allocated();
                for (int i = 0; i < 480; i++) {
                    int[] n = PICKED;
                    for (int k = 0; k < 4; k++) {
                        draw = (draw * 1103515245 + 12345) & 0x7fffffff;
                        n[k] = some[(draw >> 8) % (i % 2 == 0 ? 4 : some.length)];
                    }
                    one(x, which, n[0], n[1], n[2], n[3]);
                }
                made[turn] += allocated() - ahead;
            }
        }
        // One object of one kind of call would be 480 times 16 bytes.
        check(made[1] < 4000, "calls made " + made[1] + " bytes");
    }

    private static final int[] PICKED = new int[4];

    private static void constructorMakesLittle() {
        new SkewedWays();
        long ahead = allocated();
        new SkewedWays();
        long bytes = allocated() - ahead;
        check(bytes < 800000, "a new object takes " + bytes + " bytes");
    }

    public static void main(String[] args) {
        constructorMakesLittle();
        callsMakeNothing();
        System.out.println(wrong == 0 ? "the room is kept" : "the room is not kept");
        if (wrong != 0) {
            System.exit(1);
        }
    }
}
