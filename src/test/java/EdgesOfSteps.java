import java.util.function.Consumer;

/** Steps that are taken back, and an image to go back to: each kind of step, 20 of them, what is kept and what not. */
public final class EdgesOfSteps {
    private static SkewedWays busy() {
        return Looks.busy(2, 2);
    }

    /** One step, and it taken back: all is as ahead of it. */
    private static void step(String call, Consumer<SkewedWays> on) {
        Looks.at("a STEP is taken back: " + call);
        SkewedWays x = busy();
        int steps = x.about(1);
        on.accept(x);
        Looks.due("about(1)", x.about(1), steps + 1);
        Looks.due("undo", x.undo(), steps);
        Looks.same("undo", Looks.picture(x), Looks.picture(busy()));
    }

    private static void kinds() {
        step("ASKED, a HIT", x -> Looks.due("ask", x.ask(14), -3));
        step("ASKED, a MISS", x -> Looks.due("ask", x.ask(9), 63));
        step("WRITTEN, a HIT", x -> Looks.due("write", x.write(14, 9), true));
        step("WRITTEN, a MISS", x -> Looks.due("write", x.write(9, 9), false));
        step("PINNED", x -> Looks.due("pin", x.pin(14, true), true));
        step("PINNED not any more", x -> Looks.due("pin", x.pin(5, false), true));
        step("CLEANED", x -> Looks.due("clean", x.clean(14), -3));
        step("LEFT", x -> Looks.due("leave", x.leave(14), -3));
        step("LEFT, a PINNED one", x -> Looks.due("leave", x.leave(5), 35));
        step("COOLED", x -> Looks.not("cool", x.cool(), 0));
        step("TRADED", x -> Looks.due("trade", x.trade(1, 0), true));
        step("EMPTIED", x -> Looks.not("empty", x.empty(), 0));
        step("SHAPED", x -> Looks.due("shape", x.shape(4, 4), 64));
        step("SHAPED, the least", x -> Looks.due("shape", x.shape(1, 1), 2));
        step("SHAPED as it is", x -> Looks.due("shape", x.shape(2, 2), 8));
        step("a FAMILY, 0", x -> Looks.due("family", x.family(0), 2));
        step("a FAMILY, 1", x -> Looks.due("family", x.family(1), 3));
        step("a FAMILY, 2", x -> Looks.due("family", x.family(2), 4));
        step("a MASK", x -> Looks.due("mask", x.mask(1, 1, 1023), 2));
        step("DEPTH", x -> Looks.due("depth", x.depth(3), true));
        step("DEPTH as it is", x -> Looks.due("depth", x.depth(2), true));
        step("a TRACE gone through (as one)", x -> Looks.due("run", x.run(0) >= 0, true));
        step("a TRACE gone through, another one", x -> Looks.due("run", x.run(1) >= 0, true));
    }

    private static void kindsThatDoNothing() {
        Looks.at("a STEP that changes nothing is one, too");
        SkewedWays x = new SkewedWays();
        Looks.told(x, "");
        Looks.due("cool", x.cool(), 0);
        Looks.due("empty", x.empty(), 0);
        Looks.due("depth", x.depth(0), true);
        Looks.due("family", x.family(0), 2);
        Looks.due("mask", x.mask(0, 0, 1), 2);
        Looks.due("run of no LINES", x.run(0), 0);
        Looks.due("about(1)", x.about(1), 6);
        for (int left = 5; left >= 0; left--) {
            Looks.due("undo", x.undo(), left);
        }
        Looks.due("undo", x.undo(), -1);
        Looks.at("a BYPASSED one is a STEP");
        x.shape(1, 1);
        x.ask(0);
        x.pin(0, true);
        x.ask(2);
        x.write(4, 44);
        Looks.due("about(1)", x.about(1), 5);
        Looks.due("undo", x.undo(), 4);
        Looks.due("memory", x.memory(4), 28);
        Looks.due("bypassed", x.is(10), 1);
        Looks.due("undo", x.undo(), 3);
        Looks.due("bypassed", x.is(10), 0);
        Looks.due("book", x.book(-1, 0), 1);
    }

    private static void noSteps() {
        Looks.at("calls that are no STEP");
        SkewedWays x = busy();
        int steps = x.about(1);
        x.tell(5);
        x.gather(77);
        x.collect(0);
        x.scatter(4);
        x.feed(0, 0, 0, 0, 0);
        x.end(0);
        x.text();
        x.image();
        x.sweep(1, 64, 9);
        x.hits(0);
        x.misses(0, 3);
        x.suited(0);
        Looks.due("about(1)", x.about(1), steps);
        x.back();
        Looks.due("about(1)", x.about(1), steps);
    }

    private static void twenty() {
        Looks.at("the latest 20, the latest first");
        for (int steps = 19; steps <= 42; steps++) {
            SkewedWays x = new SkewedWays();
            for (int i = 1; i <= steps; i++) {
                x.write(0, i);
                Looks.due("about(1)", x.about(1), Math.min(i, 20));
            }
            int left = Math.min(steps, 20);
            for (int i = 1; i <= left; i++) {
                Looks.due("undo", x.undo(), left - i);
                Looks.due("value", x.value(0), steps - i);
                Looks.due("about(1)", x.about(1), left - i);
            }
            Looks.due("undo, there is none", x.undo(), -1);
            Looks.due("value", x.value(0), steps - left);
            Looks.due("misses", x.is(4), steps > 20 ? 1 : 0);
            Looks.due("write", x.write(0, 99), steps > 20);
            Looks.due("about(1)", x.about(1), 1);
            Looks.due("undo", x.undo(), 0);
            Looks.due("undo, there is none", x.undo(), -1);
        }
    }

    private static void backAndOn() {
        Looks.at("taken back, and on again");
        SkewedWays x = new SkewedWays();
        for (int i = 1; i <= 30; i++) {
            x.write(0, i);
        }
        for (int i = 0; i < 7; i++) {
            x.undo();
        }
        Looks.due("about(1)", x.about(1), 13);
        for (int i = 101; i <= 107; i++) {
            x.write(0, i);
        }
        Looks.due("about(1)", x.about(1), 20);
        x.write(0, 108);
        Looks.due("about(1)", x.about(1), 20);
        for (int i = 19; i >= 0; i--) {
            Looks.due("undo", x.undo(), i);
            Looks.due("value", x.value(0), i > 12 ? 101 + i - 13 : 11 + i);
        }
        Looks.due("undo", x.undo(), -1);
        Looks.due("value", x.value(0), 11);
    }

    private static void keptByUndo() {
        Looks.at("all but TRACES, THE SET, the tape and the latest FAULT is as ahead of it");
        SkewedWays x = new SkewedWays();
        Looks.due("tell", x.tell(7), true);
        x.ask(1);
        Looks.told(x, "r1 r2");
        x.gather(9);
        x.gather(8);
        x.scatter(9);
        Looks.told(x, "r1 :");
        Looks.due("tell", x.tell(8), true);
        Looks.tape(x, "r77");
        Looks.due("undo", x.undo(), 0);
        Looks.due("TRACES stay", x.about(0), 1);
        Looks.steps(x, 0, 1, 2);
        Looks.set(x, 8);
        Looks.due("the FAULT stays", x.fault(0), 1);
        Looks.due("its place stays", x.fault(1), 3);
        Looks.due("the tape stays", x.about(2), 3);
        Looks.due("X is as ahead of it", x.is(8), 7);
        Looks.due("misses", x.is(4), 0);
        Looks.due("text", x.text(), 1);
        Looks.steps(x, 1, 77);
        Looks.due("collect", x.collect(0), 2);
        x.run(0);
        Looks.due("undo", x.undo(), 0);
        Looks.set(x, 1, 2);
    }

    private static void traceAsOne() {
        Looks.at("a TRACE gone through (as one)");
        SkewedWays x = new SkewedWays();
        Looks.told(x, "(r0+1*99)6 w5:1 r0+1*5");
        Looks.due("length", x.length(0), 600);
        for (int i = 1; i <= 25; i++) {
            x.run(0);
            Looks.due("about(1)", x.about(1), Math.min(i, 20));
        }
        Looks.due("HITS and MISSES", x.is(3) + x.is(4), 25 * 600);
        for (int i = 19; i >= 0; i--) {
            Looks.due("undo", x.undo(), i);
            Looks.due("HITS and MISSES", x.is(3) + x.is(4), (5 + i) * 600);
        }
        Looks.due("undo", x.undo(), -1);
    }

    private static void imageOfNew() {
        Looks.at("THE IMAGE is this (a new object)");
        SkewedWays x = new SkewedWays();
        Looks.due("back", x.back(), 0);
        Looks.same("back", Looks.picture(x), Looks.picture(new SkewedWays()));
        x = new SkewedWays();
        x.shape(4, 4);
        x.depth(3);
        x.family(2);
        x.write(5, 5);
        x.gather(3);
        Looks.told(x, "r3 r4");
        Looks.due("back", x.back(), 0);
        SkewedWays y = new SkewedWays();
        Looks.told(y, "");
        y.back();
        Looks.same("back, the latest FAULT stays", Looks.picture(x), Looks.picture(y));
    }

    private static void images() {
        Looks.at("AN IMAGE: all as it is, but the tape and the latest FAULT");
        SkewedWays x = busy();
        // 1, 4 and 14 by ways of depth 2, for which 11 went OUT, and 5.
        Looks.due("LINES that are in SLOTS", x.image(), 4);
        x.shape(3, 3);
        x.write(14, 1);
        x.write(999, 2);
        x.depth(0);
        x.tell(1);
        x.collect(0);
        x.undo();
        Looks.told(x, "r700");
        Looks.due("text with a FAULT", Looks.told(x, "r70 :"), -1);
        Looks.tape(x, "r8");
        Looks.due("back", x.back(), 4);
        Looks.due("the FAULT is the latest one", x.fault(0), 1);
        Looks.due("its place", x.fault(1), 4);
        Looks.due("the tape is as it was", x.about(2), 2);
        SkewedWays y = busy();
        y.image();
        Looks.told(y, "r70 :");
        Looks.tape(y, "r8");
        Looks.same("back", Looks.picture(x), Looks.picture(y));
    }

    private static void imageStays() {
        Looks.at("BACK TO THE IMAGE (it stays)");
        SkewedWays x = new SkewedWays();
        x.write(0, 1);
        Looks.due("image", x.image(), 1);
        for (int i = 0; i < 3; i++) {
            x.write(0, 50 + i);
            x.ask(1);
            x.gather(i);
            Looks.told(x, "r" + i);
            Looks.due("back", x.back(), 1);
            Looks.due("value", x.value(0), 1);
            Looks.due("about(1)", x.about(1), 1);
            Looks.due("about(0)", x.about(0), 0);
            Looks.set(x);
        }
        Looks.due("undo", x.undo(), 0);
        Looks.due("undo", x.undo(), -1);
        Looks.due("where", x.where(0), -1);
        Looks.due("back", x.back(), 1);
        Looks.due("undo", x.undo(), 0);
        x.ask(2);
        x.ask(3);
        Looks.due("another image", x.image(), 2);
        x.empty();
        Looks.due("back", x.back(), 2);
        Looks.due("where", x.where(0), -1);
        Looks.due("where", x.where(3), 0);
        Looks.due("about(1)", x.about(1), 2);
    }

    private static void imageOfTwenty() {
        Looks.at("an IMAGE has the STEPS, too");
        SkewedWays x = new SkewedWays();
        for (int i = 1; i <= 33; i++) {
            x.write(0, i);
        }
        x.image();
        for (int i = 0; i < 20; i++) {
            x.undo();
        }
        Looks.due("undo", x.undo(), -1);
        Looks.due("back", x.back(), 1);
        Looks.due("about(1)", x.about(1), 20);
        Looks.due("value", x.value(0), 33);
        x.write(0, 34);
        Looks.due("about(1)", x.about(1), 20);
        for (int i = 0; i < 20; i++) {
            Looks.due("undo", x.undo(), 19 - i);
            Looks.due("value", x.value(0), 33 - i);
        }
        Looks.due("undo", x.undo(), -1);
        Looks.due("value", x.value(0), 14);
        Looks.due("back", x.back(), 1);
        Looks.due("undo", x.undo(), 19);
        Looks.due("value", x.value(0), 32);
    }

    /** All steps of an image are its own, the eldest too: others were made since in their place. */
    private static void imageOfFewSteps() {
        Looks.at("an IMAGE has the STEPS, each of them");
        for (int steps = 1; steps <= 20; steps++) {
            SkewedWays x = new SkewedWays();
            for (int i = 1; i <= steps; i++) {
                x.write(0, i);
            }
            x.image();
            while (x.undo() > 0) {
                Looks.due("value", x.value(0) < steps, true);
            }
            for (int i = 0; i < 23; i++) {
                x.write(1, 1000 + i);
            }
            Looks.due("back", x.back(), 1);
            for (int i = steps - 1; i >= 0; i--) {
                Looks.due("value(1)", x.value(1), 7);
                Looks.due("undo", x.undo(), i);
                Looks.due("value(0)", x.value(0), i);
            }
            Looks.due("where", x.where(0), -1);
            Looks.due("where", x.where(1), -1);
            Looks.due("undo", x.undo(), -1);
        }
    }

    private static void imageOfFourTraces() {
        Looks.at("an IMAGE of 4 TRACES, of none");
        SkewedWays x = new SkewedWays();
        Looks.told(x, "r1");
        Looks.told(x, "r2");
        x.image();
        Looks.told(x, "r3");
        Looks.told(x, "r4");
        Looks.due("a fifth one", Looks.told(x, "r5"), -1);
        Looks.due("back", x.back(), 0);
        Looks.due("about(0)", x.about(0), 2);
        Looks.due("length(2)", x.length(2), -1);
        Looks.due("the tape stays, and there is room", x.text(), 2);
        Looks.steps(x, 2, 5);
        Looks.steps(x, 1, 2);
        Looks.due("the fourth", Looks.told(x, "r6"), 3);
        x.image();
        Looks.due("back", x.back(), 0);
        Looks.due("about(0)", x.about(0), 4);
        Looks.steps(x, 3, 6);
    }

    public static void main(String[] args) {
        kinds();
        kindsThatDoNothing();
        noSteps();
        twenty();
        backAndOn();
        keptByUndo();
        traceAsOne();
        imageOfNew();
        images();
        imageStays();
        imageOfTwenty();
        imageOfFewSteps();
        imageOfFourTraces();
        Looks.close();
    }
}
