import java.util.ArrayList;
import java.util.List;
import java.util.function.ToLongBiFunction;

/**
 * Every number that a call is told, on both sides of the least and the greatest one that the document names:
 * the last one that is taken, the first one that is refused, and what the object shows after a refused call.
 */
public final class RangeRuns {
    private static final int[][] SHAPES = {{2, 2}, {1, 1}, {4, 4}, {3, 1}, {2, 3}};

    /** What an accepted call answers: never the refused answer, or that as well. */
    private static final int NEVER = 0;
    private static final int MAYBE = 1;
    /** An accepted call is a step, whatever it answers. */
    private static final int STEP = 2;

    private static final class Call {
        final String name;
        final long refused;
        final int kind;
        final ToLongBiFunction<SkewedWays, int[]> on;
        final int[] ranges;

        Call(String name, long refused, int kind, ToLongBiFunction<SkewedWays, int[]> on, int... ranges) {
            this.name = name;
            this.refused = refused;
            this.kind = kind;
            this.on = on;
            this.ranges = ranges;
        }
    }

    private static final List<Call> CALLS = new ArrayList<>();

    private static void add(String name, long refused, int kind, ToLongBiFunction<SkewedWays, int[]> on, int... ranges) {
        CALLS.add(new Call(name, refused, kind, on, ranges));
    }

    private static long truth(boolean is) {
        return is ? 1 : 0;
    }

    private static void changes(int ways, int bits) {
        add("end", -1, NEVER, (x, a) -> x.end(a[0]), 0, 7);
        add("fault", -1, NEVER, (x, a) -> x.fault(a[0]), 0, 1);
        add("ask", -10000, STEP, (x, a) -> x.ask(a[0]), 0, 1023);
        add("write", 0, STEP, (x, a) -> truth(x.write(a[0], a[1])), 0, 1023, -9999, 9999);
        add("shape", -1, STEP, (x, a) -> x.shape(a[0], a[1]), 1, 4, 1, 4);
        add("family", -1, STEP, (x, a) -> x.family(a[0]), 0, 2);
        add("mask", -1, STEP, (x, a) -> x.mask(a[0], a[1], a[2]), 0, ways - 1, 0, bits - 1, 0, 1023);
        add("depth", 0, STEP, (x, a) -> truth(x.depth(a[0])), 0, 3);
        add("run", -1, STEP, (x, a) -> x.run(a[0]), 0, 1);
        add("tell", 0, NEVER, (x, a) -> truth(x.tell(a[0])), 0, 30046);
        add("gather", -1, NEVER, (x, a) -> x.gather(a[0]), 0, 1022);
        add("collect", -1, NEVER, (x, a) -> x.collect(a[0]), 0, 1);
    }

    private static void looks(int ways, int bits) {
        int way = ways - 1;
        int bit = bits - 1;
        add("is", -1, NEVER, (x, a) -> x.is(a[0]), 0, 11);
        add("masked", -1, NEVER, (x, a) -> x.masked(a[0], a[1]), 0, way, 0, bit);
        add("index", -1, NEVER, (x, a) -> x.index(a[0], a[1]), 0, 1023, 0, way);
        add("slot", -10000, NEVER, (x, a) -> x.slot(a[0], a[1], a[2]), 0, way, 0, (1 << bits) - 1, 0, 4);
        add("where", -1, MAYBE, (x, a) -> x.where(a[0]), 0, 1023);
        add("memory", -10000, NEVER, (x, a) -> x.memory(a[0]), 0, 1023);
        add("value", -10000, NEVER, (x, a) -> x.value(a[0]), 0, 1023);
        add("aged", 0, MAYBE, (x, a) -> x.aged(a[0]), 0, 3);
        add("book", -2, NEVER, (x, a) -> x.book(a[0] + 1 == 0 ? -2 : a[0], a[1]), 0, 5, 0, 3);
        add("rank", -1, NEVER, (x, a) -> x.rank(a[0], a[1]), 0, way, 0, way);
        add("twins", -1, NEVER, (x, a) -> x.twins(a[0]), 0, 1023);
        add("twin", -1, MAYBE, (x, a) -> x.twin(a[0], a[1]), 0, 1023, 0, 1023);
        add("together", -1, NEVER, (x, a) -> x.together(a[0], a[1]), 0, 1023, 0, 1023);
        add("spread", -1, NEVER, (x, a) -> x.spread(a[0], a[1], a[2], a[3]), 0, way, 1, 1023, 1, 64, 0, 1);
        add("even", -1, NEVER, (x, a) -> x.even(a[0]), 0, way);
        add("worst", -1, NEVER, (x, a) -> x.worst(a[0], a[1]), 0, way, 1, 64);
        add("flipped", -1, NEVER, (x, a) -> x.flipped(a[0], a[1], a[2]), 0, way, 0, bit, 0, 9);
        add("bestFlip", -1, MAYBE, (x, a) -> x.bestFlip(a[0]), 0, way);
        add("sweep", -1, NEVER, (x, a) -> x.sweep(a[0], a[1], a[2]), 1, 1023, 1, 64, 1, 9);
        add("holds", -1, NEVER, (x, a) -> x.holds(a[0], a[1]), 1, 1023, 1, 64);
        add("pairs", -1, NEVER, (x, a) -> x.pairs(a[0]), 1, 64);
        add("shares", -1, NEVER, (x, a) -> x.shares(a[0]), 0, ways);
        add("room", -1, NEVER, (x, a) -> x.room(a[0]), 1, 1023);
        add("crowd, the slot", -1, NEVER, (x, a) -> x.crowd(a[0], false), 0, way);
        add("crowd, how many", -1, NEVER, (x, a) -> x.crowd(a[0], true), 0, way);
        add("reach", -1, NEVER, (x, a) -> x.reach(a[0], a[1]), 0, 1023, 0, 3);
        add("candidate, how many", -1, NEVER, (x, a) -> x.candidate(a[0], -1), 0, 1023);
        add("victim", -1, MAYBE, (x, a) -> x.victim(a[0]), 0, 1023);
        add("moved, how many", -1, NEVER, (x, a) -> x.moved(a[0], -1), 0, 1023);
        add("about", -2, NEVER, (x, a) -> x.about(a[0]), 0, 2);
        if (ways > 1) {
            add("scattered", -1, NEVER, (x, a) -> x.scattered(a[0], a[1], ways - 1), 0, 1023, 0, ways - 2);
            add("scattered", -1, NEVER, (x, a) -> x.scattered(a[0], 0, a[1]), 0, 1023, 1, ways - 1);
        }
    }

    /** Trace 0 has 7 lines, trace 1 has 3. */
    private static void traces() {
        add("length", -1, NEVER, (x, a) -> x.length(a[0]), 0, 1);
        add("step", -1, NEVER, (x, a) -> x.step(a[0], 0), 0, 1);
        add("step of 0", -1, NEVER, (x, a) -> x.step(0, a[0]), 0, 6);
        add("step of 1", -1, NEVER, (x, a) -> x.step(1, a[0]), 0, 2);
        add("wide", -1, NEVER, (x, a) -> x.wide(a[0]), 0, 1);
        add("writes", -1, NEVER, (x, a) -> x.writes(a[0]), 0, 1);
        add("working", -1, NEVER, (x, a) -> x.working(a[0], a[1]), 0, 1, 1, 99);
        add("hottest, the line", -1, NEVER, (x, a) -> x.hottest(a[0], false), 0, 1);
        add("hottest, how often", -1, NEVER, (x, a) -> x.hottest(a[0], true), 0, 1);
        add("hits", -1, NEVER, (x, a) -> x.hits(a[0]), 0, 1);
        add("misses", -1, NEVER, (x, a) -> x.misses(a[0], a[1]), 0, 1, 0, 3);
        add("deepest", -1, NEVER, (x, a) -> x.deepest(a[0]), 0, 1);
        add("suited", -1, NEVER, (x, a) -> x.suited(a[0]), 0, 1);
        add("ideal", -1, NEVER, (x, a) -> x.ideal(a[0]), 0, 1);
        add("distance", -1, MAYBE, (x, a) -> x.distance(a[0], a[1]), 0, 1, 0, 6);
        add("recent", -1, NEVER, (x, a) -> x.recent(a[0], a[1]), 0, 1, 1, 64);
        add("conflicts", -10000, NEVER, (x, a) -> x.conflicts(a[0]), 0, 1);
    }

    private static String named(Call call, int[] told) {
        StringBuilder b = new StringBuilder(call.name).append('(');
        for (int i = 0; i < told.length; i++) {
            b.append(i == 0 ? "" : ", ").append(told[i]);
        }
        return b.append(')').toString();
    }

    private static int[] leasts(Call call, boolean most) {
        int[] told = new int[call.ranges.length / 2];
        for (int i = 0; i < told.length; i++) {
            told[i] = call.ranges[2 * i + (most ? 1 : 0)];
        }
        return told;
    }

    private static void taken(Call call, int[] told, int[] shape) {
        SkewedWays x = Looks.busy(shape[0], shape[1]);
        int steps = x.about(1);
        long answer = call.on.applyAsLong(x, told);
        if (call.kind == NEVER) {
            Looks.not(named(call, told), answer, call.refused);
        }
        Looks.due("steps behind " + named(call, told), x.about(1), call.kind == STEP ? steps + 1 : steps);
    }

    private static void refused(Call call, int[] told, int[] shape, String due) {
        SkewedWays x = Looks.busy(shape[0], shape[1]);
        Looks.due(named(call, told), call.on.applyAsLong(x, told), call.refused);
        Looks.same("after " + named(call, told), Looks.picture(x), due);
    }

    private static void bothSides(Call call, int[] shape, String due) {
        for (int i = 0; 2 * i < call.ranges.length; i++) {
            int least = call.ranges[2 * i];
            int most = call.ranges[2 * i + 1];
            for (int side = 0; side < 2; side++) {
                int[] told = leasts(call, side == 1);
                told[i] = least;
                taken(call, told, shape);
                told[i] = most;
                taken(call, told, shape);
                int[] out = {least - 1, most + 1, Integer.MIN_VALUE, Integer.MAX_VALUE, least - 256, most + 256, -least - 65536};
                for (int number : out) {
                    told[i] = number;
                    refused(call, told, shape, due);
                }
            }
        }
    }

    public static void main(String[] args) {
        for (int[] shape : SHAPES) {
            Looks.at("WAYS " + shape[0] + ", BITS " + shape[1]);
            CALLS.clear();
            changes(shape[0], shape[1]);
            looks(shape[0], shape[1]);
            traces();
            String due = Looks.picture(Looks.busy(shape[0], shape[1]));
            for (Call call : CALLS) {
                bothSides(call, shape, due);
            }
        }
        Looks.close();
    }
}
