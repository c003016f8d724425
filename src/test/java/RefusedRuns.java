import java.util.function.Supplier;
import java.util.function.ToLongFunction;

/**
 * Calls that are refused for what the object is at the time (not there, there already, full, empty, none ahead),
 * and calls that only look: what is answered, and that all that can be seen stays as it was.
 */
public final class RefusedRuns {
    private static void stays(String call, Supplier<SkewedWays> made, ToLongFunction<SkewedWays> on, long due) {
        SkewedWays x = made.get();
        Looks.due(call, on.applyAsLong(x), due);
        Looks.same("after " + call, Looks.picture(x), Looks.picture(made.get()));
    }

    /** A call that only looks: twice the same answer, and nothing is changed. */
    private static void looks(String call, Supplier<SkewedWays> made, ToLongFunction<SkewedWays> on) {
        SkewedWays x = made.get();
        long answer = on.applyAsLong(x);
        Looks.due(call + ", once more", on.applyAsLong(x), answer);
        Looks.same("after " + call, Looks.picture(x), Looks.picture(made.get()));
    }

    private static long truth(boolean is) {
        return is ? 1 : 0;
    }

    /** All slots have a pinned line, 20 steps, 24 lines of the book, 32 lines of the set, 4 traces, 300 bytes. */
    private static SkewedWays full() {
        SkewedWays x = new SkewedWays();
        for (int i = 0; i < 4; i++) {
            Looks.told(x, i < 3 ? "r0" : "(r0+1*99)6 r0+1*6");
        }
        for (int i = 0; i < 32; i++) {
            x.gather(i);
        }
        for (int line = 0; line < 8; line++) {
            x.ask(line);
            x.pin(line, true);
        }
        for (int line = 8; line < 25; line++) {
            x.ask(line);
        }
        for (int i = 0; i < 15; i++) {
            x.feed(0x72312077, 0x323A3320, 0x20202020, 0x20202020, 0x20202020);
        }
        return x;
    }

    private static void nothingThere() {
        Supplier<SkewedWays> made = SkewedWays::new;
        Looks.at("a new object");
        stays("fault(0)", made, x -> x.fault(0), -1);
        stays("fault(1)", made, x -> x.fault(1), -1);
        stays("end(1)", made, x -> x.end(1), -1);
        stays("pin(0, true)", made, x -> truth(x.pin(0, true)), 0);
        stays("pin(0, false)", made, x -> truth(x.pin(0, false)), 0);
        stays("clean(0)", made, x -> x.clean(0), -10000);
        stays("leave(0)", made, x -> x.leave(0), -10000);
        stays("run(0)", made, x -> x.run(0), -1);
        stays("undo()", made, x -> x.undo(), -1);
        stays("collect(0)", made, x -> x.collect(0), -1);
        stays("scatter(0)", made, x -> truth(x.scatter(0)), 0);
        stays("book(0, 0)", made, x -> x.book(0, 0), -2);
        stays("book(-1, 0)", made, x -> x.book(-1, 0), 0);
        stays("gathered(-1)", made, x -> x.gathered(-1), 0);
        stays("gathered(0)", made, x -> x.gathered(0), -1);
        stays("piece(0)", made, x -> x.piece(0), -1);
        stays("pieces()", made, x -> x.pieces(), 0);
        stays("fitting()", made, x -> x.fitting(), 0);
        stays("fittingPlainly()", made, x -> x.fittingPlainly(), 0);
        stays("shares(0)", made, x -> x.shares(0), 0);
        stays("crowd(1, true)", made, x -> x.crowd(1, true), 0);
        stays("crowd(1, false)", made, x -> x.crowd(1, false), 0);
        stays("ratio()", made, x -> x.ratio(), 0);
        stays("stale()", made, x -> x.stale(), 0);
        stays("victim(0)", made, x -> x.victim(0), -1);
        stays("conflicts(0)", made, x -> x.conflicts(0), -10000);
        stays("end(0) of an empty tape", made, x -> x.end(0), 0);
        stays("image() of what the image is", made, x -> x.image(), 0);
        stays("back() to what all is", made, x -> x.back(), 0);
    }

    private static void thereAlready() {
        Supplier<SkewedWays> made = () -> Looks.busy(2, 2);
        Looks.at("a busy object");
        stays("pin(5, true), it is so", made, x -> truth(x.pin(5, true)), 0);
        stays("pin(4, false), it is so", made, x -> truth(x.pin(4, false)), 0);
        stays("pin(900, true), in no slot", made, x -> truth(x.pin(900, true)), 0);
        stays("pin(900, false), in no slot", made, x -> truth(x.pin(900, false)), 0);
        stays("pin(-1, false)", made, x -> truth(x.pin(-1, false)), 0);
        stays("pin(1024, true)", made, x -> truth(x.pin(1024, true)), 0);
        stays("clean(4), not dirty", made, x -> x.clean(4), -10000);
        stays("clean(900), in no slot", made, x -> x.clean(900), -10000);
        stays("clean(-1)", made, x -> x.clean(-1), -10000);
        stays("clean(1024)", made, x -> x.clean(1024), -10000);
        stays("leave(900), in no slot", made, x -> x.leave(900), -10000);
        stays("leave(-1)", made, x -> x.leave(-1), -10000);
        stays("leave(1024)", made, x -> x.leave(1024), -10000);
        stays("trade(0, 0)", made, x -> truth(x.trade(0, 0)), 0);
        stays("trade(1, 1)", made, x -> truth(x.trade(1, 1)), 0);
        stays("trade(0, 2)", made, x -> truth(x.trade(0, 2)), 0);
        stays("trade(2, 0)", made, x -> truth(x.trade(2, 0)), 0);
        stays("trade(-1, 0)", made, x -> truth(x.trade(-1, 0)), 0);
        stays("trade(0, -1)", made, x -> truth(x.trade(0, -1)), 0);
        stays("gather(700), it is there", made, x -> x.gather(700), -1);
        stays("gather(1023), it is there", made, x -> x.gather(1023), -1);
        stays("scatter(6), it isn't there", made, x -> truth(x.scatter(6)), 0);
        stays("scatter(-1)", made, x -> truth(x.scatter(-1)), 0);
        stays("scatter(1024)", made, x -> truth(x.scatter(1024)), 0);
        stays("piece(6), not in THE SET", made, x -> x.piece(6), -1);
        stays("piece(-1)", made, x -> x.piece(-1), -1);
        stays("piece(1024)", made, x -> x.piece(1024), -1);
        stays("gathered(3)", made, x -> x.gathered(3), -1);
        stays("gathered(-2)", made, x -> x.gathered(-2), -1);
        stays("scattered(0, 1, 1)", made, x -> x.scattered(0, 1, 1), -1);
        stays("scattered(0, 0, 2)", made, x -> x.scattered(0, 0, 2), -1);
        stays("scattered(0, 0, -1)", made, x -> x.scattered(0, 0, -1), -1);
        stays("candidate(5, 0), it is in a slot", made, x -> x.candidate(5, 0), -1);
        stays("candidate(5, -1), it is in a slot", made, x -> x.candidate(5, -1), 0);
        stays("candidate(900, -2)", made, x -> x.candidate(900, -2), -1);
        stays("reach(5, 3), it is in a slot", made, x -> x.reach(5, 3), 0);
        stays("victim(5), it is in a slot", made, x -> x.victim(5), -1);
        stays("moved(5, -1), it is in a slot", made, x -> x.moved(5, -1), 0);
        stays("moved(5, 0), it is in a slot", made, x -> x.moved(5, 0), -1);
        stays("moved(900, -2)", made, x -> x.moved(900, -2), -1);
        stays("end(8), the tape has 7", made, x -> x.end(8), -1);
        stays("end(7), all it has", made, x -> x.end(7), 7);
        stays("trade of a way that is no more", () -> shaped(1), x -> truth(x.trade(0, 1)), 0);
    }

    private static SkewedWays shaped(int ways) {
        SkewedWays x = Looks.busy(2, 2);
        x.shape(ways, 2);
        return x;
    }

    private static void allFull() {
        Looks.at("a full object");
        SkewedWays x = full();
        Looks.due("about(0)", x.about(0), 4);
        Looks.due("about(1)", x.about(1), 20);
        Looks.due("about(2)", x.about(2), 300);
        Looks.due("is(9)", x.is(9), 0);
        Looks.due("is(11)", x.is(11), 8);
        Looks.due("book(-1, 0)", x.book(-1, 0), 24);
        Looks.due("gathered(-1)", x.gathered(-1), 32);
        Supplier<SkewedWays> made = RefusedRuns::full;
        stays("feed", made, y -> y.feed(0x72312077, 0x323A3320, 0, 0, 0), -1);
        stays("end(301)", made, y -> y.end(301), -1);
        stays("end(300)", made, y -> y.end(300), 300);
        stays("text(), the tape stays", made, y -> y.text(), -1);
        stays("gather(32), there are 32", made, y -> y.gather(32), -1);
        stays("gather(0), there are 32, and it is there", made, y -> y.gather(0), -1);
        stays("run(4)", made, y -> y.run(4), -1);
        stays("collect(4)", made, y -> y.collect(4), -1);
        stays("length(4)", made, y -> y.length(4), -1);
        stays("step(3, 600)", made, y -> y.step(3, 600), -1);
        stays("distance(3, 600)", made, y -> y.distance(3, 600), -1);
        stays("gathered(32)", made, y -> y.gathered(32), -1);
        stays("book(24, 0)", made, y -> y.book(24, 0), -2);
        stays("candidate(100, -1)", made, y -> y.candidate(100, -1), 0);
        stays("candidate(100, 0)", made, y -> y.candidate(100, 0), -1);
        stays("reach(100, 3)", made, y -> y.reach(100, 3), 0);
        stays("victim(100)", made, y -> y.victim(100), -1);
        stays("moved(100, -1)", made, y -> y.moved(100, -1), 0);
        stays("moved(100, 0)", made, y -> y.moved(100, 0), -1);
    }

    /** "III. All that follows changes nothing but what is told." */
    private static void looksOf(Supplier<SkewedWays> made) {
        looks("rank", made, x -> x.rank(0, 1));
        looks("twins", made, x -> x.twins(9));
        looks("twin", made, x -> x.twin(9, 1));
        looks("together", made, x -> x.together(1, 5));
        looks("spread", made, x -> x.spread(1, 3, 64, 0));
        looks("spread, the most", made, x -> x.spread(1, 3, 64, 1));
        looks("even", made, x -> x.even(1));
        looks("evenAll", made, x -> x.evenAll());
        looks("scattered", made, x -> x.scattered(7, 0, 1));
        looks("worst", made, x -> x.worst(0, 64));
        looks("flipped", made, x -> x.flipped(0, 0, 9));
        looks("bestFlip", made, x -> x.bestFlip(0));
        looks("sweep", made, x -> x.sweep(1, 64, 9));
        looks("holds", made, x -> x.holds(1, 64));
        looks("pairs", made, x -> x.pairs(64));
        looks("shares", made, x -> x.shares(1));
        looks("room", made, x -> x.room(3));
        looks("crowd", made, x -> x.crowd(0, false));
        looks("crowd, how many", made, x -> x.crowd(0, true));
        looks("fitting", made, x -> x.fitting());
        looks("fittingPlainly", made, x -> x.fittingPlainly());
        looks("pieces", made, x -> x.pieces());
        looks("piece", made, x -> x.piece(5));
        looks("reach", made, x -> x.reach(900, 3));
        looks("candidate", made, x -> x.candidate(900, 0));
        looks("victim", made, x -> x.victim(900));
        looks("moved", made, x -> x.moved(900, -1));
        looks("index", made, x -> x.index(900, 1));
        looks("value", made, x -> x.value(14));
        looks("aged", made, x -> x.aged(0));
        looks("stale", made, x -> x.stale());
        looks("ratio", made, x -> x.ratio());
        looks("fault", made, x -> x.fault(1));
    }

    private static void looksAtTraces(Supplier<SkewedWays> made) {
        looks("length", made, x -> x.length(0));
        looks("step", made, x -> x.step(0, 0));
        looks("wide", made, x -> x.wide(0));
        looks("writes", made, x -> x.writes(0));
        looks("working", made, x -> x.working(0, 3));
        looks("hottest", made, x -> x.hottest(0, false));
        looks("hottest, how often", made, x -> x.hottest(0, true));
        looks("hits", made, x -> x.hits(0));
        looks("misses", made, x -> x.misses(0, 3));
        looks("deepest", made, x -> x.deepest(0));
        looks("suited", made, x -> x.suited(0));
        looks("ideal", made, x -> x.ideal(0));
        looks("distance", made, x -> x.distance(0, 3));
        looks("recent", made, x -> x.recent(0, 1));
        looks("conflicts", made, x -> x.conflicts(0));
    }

    /** What the image had is seen by back(): the image is this object as it is. */
    private static SkewedWays imaged() {
        SkewedWays x = Looks.busy(2, 2);
        x.image();
        return x;
    }

    public static void main(String[] args) {
        nothingThere();
        thereAlready();
        allFull();
        int[][] shapes = {{2, 2}, {4, 1}, {3, 2}, {2, 3}};
        for (int[] shape : shapes) {
            Looks.at("III changes nothing, WAYS " + shape[0] + ", BITS " + shape[1]);
            looksOf(() -> Looks.busy(shape[0], shape[1]));
            looksAtTraces(() -> Looks.busy(shape[0], shape[1]));
        }
        Looks.at("III changes nothing, the image like all");
        looksOf(RefusedRuns::imaged);
        looksAtTraces(RefusedRuns::imaged);
        Looks.at("III changes nothing, all full");
        looksOf(RefusedRuns::full);
        looksAtTraces(RefusedRuns::full);
        Looks.close();
    }
}
