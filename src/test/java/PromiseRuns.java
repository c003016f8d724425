/** Each promise by itself: ordinary inputs, the edges that the document names, and wrong inputs. */
public final class PromiseRuns {
    private static int wrong = 0;
    private static String promise = "";

    private static void due(String call, long got, long want) {
        if (got != want) {
            wrong++;
            System.out.println("promise " + promise + ": " + call + " answered " + got + ", due is " + want);
        }
    }

    private static void due(String call, boolean got, boolean want) {
        due(call, got ? 1 : 0, want ? 1 : 0);
    }

    private static SkewedWays fresh(String number) {
        promise = number;
        return new SkewedWays();
    }

    /** Feeds a text, its end set behind it. */
    private static void tape(SkewedWays x, String text) {
        due("end(0)", x.end(0), 0);
        for (int at = 0; at < text.length(); at += 20) {
            int[] w = new int[5];
            for (int i = 0; i < 20 && at + i < text.length(); i++) {
                w[i / 4] |= text.charAt(at + i) << 24 - 8 * (i % 4);
            }
            due("feed", x.feed(w[0], w[1], w[2], w[3], w[4]), at + 20);
        }
        due("end", x.end(text.length()), text.length());
    }

    private static int told(SkewedWays x, String text) {
        tape(x, text);
        return x.text();
    }

    private static void faulty(String text, int fault, int place) {
        SkewedWays x = new SkewedWays();
        due("text of " + text, told(x, text), -1);
        due("fault(0) of " + text, x.fault(0), fault);
        due("fault(1) of " + text, x.fault(1), place);
        due("about(0) of " + text, x.about(0), 0);
        due("about(2) of " + text, x.about(2), 0);
    }

    private static String many(String part, int times) {
        StringBuilder b = new StringBuilder();
        for (int i = 0; i < times; i++) {
            b.append(part);
        }
        return b.toString();
    }

    private static void newObject() {
        SkewedWays x = fresh("1");
        int[] due = {2, 2, 0, 0, 0, 0, 0, 0, 431, 8, 0, 0};
        for (int i = 0; i < due.length; i++) {
            due("is(" + i + ")", x.is(i), due[i]);
        }
        for (int line = 0; line < 1024; line += 31) {
            due("memory(" + line + ")", x.memory(line), line * 7 % 100);
            due("where(" + line + ")", x.where(line), -1);
        }
        for (int way = 0; way < 2; way++) {
            for (int slot = 0; slot < 4; slot++) {
                due("slot", x.slot(way, slot, 0), -1);
                due("slot", x.slot(way, slot, 1), 0);
                due("slot", x.slot(way, slot, 2), 0);
                due("slot", x.slot(way, slot, 3), 0);
                due("slot", x.slot(way, slot, 4), 0);
            }
        }
        due("ask(3)", x.ask(3), 21);
        due("tell(7)", x.tell(7), true);
        due("gather(3)", x.gather(3), 1);
        due("text", told(x, "r1"), 0);
        due("back()", x.back(), 0);
        due("where(3)", x.where(3), -1);
        due("is(4)", x.is(4), 0);
        due("is(8)", x.is(8), 431);
        due("gathered(-1)", x.gathered(-1), 0);
        due("about(0)", x.about(0), 0);
        due("about(1)", x.about(1), 0);
    }

    private static void tapeAndTexts() {
        SkewedWays x = fresh("2");
        for (int i = 1; i <= 15; i++) {
            due("feed", x.feed(0x72312072, 0x32207233, 0x20722034, 0x20723520, 0x0A0A0A20), 20 * i);
        }
        due("feed", x.feed(0, 0, 0, 0, 0), -1);
        due("about(2)", x.about(2), 300);
        due("end(281)", x.end(281), 281);
        due("feed", x.feed(0, 0, 0, 0, 0), -1);
        due("end(280)", x.end(280), 280);
        due("feed", x.feed(0, 0, 0, 0, 0), 300);
        promise = "3";
        due("end(301)", x.end(301), -1);
        due("end(-1)", x.end(-1), -1);
        due("about(2)", x.about(2), 300);
        due("end(280)", x.end(280), 280);
        promise = "4";
        due("text()", x.text(), 0);
        due("about(2)", x.about(2), 0);
        due("length(0)", x.length(0), 70);
        due("step(0, 69)", x.step(0, 69), 5);
        due("text()", x.text(), 1);
        due("text()", told(x, "x"), -1);
        due("fault(0)", x.fault(0), 1);
        due("fault(1)", x.fault(1), 0);
        due("about(2)", x.about(2), 0);
        due("text()", told(x, "r2"), 2);
        due("text()", told(x, "r3"), 3);
        due("fault(0)", x.fault(0), 0);
        due("text() of a fifth", told(x, "r4 w"), -1);
        due("about(2)", x.about(2), 4);
        due("fault(0), for it wasn't read", x.fault(0), 0);
        due("fault(1)", x.fault(1), -1);
        due("about(0)", x.about(0), 4);
        due("step(3, 0)", x.step(3, 0), 3);
        x = fresh("2");
        due("feed", x.feed(0x72203120, 0x77203220, 0x3A203920, 0x28722033, 0x20292032), 20);
        due("text", x.text(), 0);
        due("length", x.length(0), 4);
        due("step", x.step(0, 0), 1);
        due("step", x.step(0, 1), 2);
        due("step", x.step(0, 3), 3);
        promise = "5";
        x = fresh("5");
        for (int what = -1; what < 4; what++) {
            due("fault ahead of any", x.fault(what), -1);
        }
        due("text()", x.text(), 0);
        due("fault(0)", x.fault(0), 0);
        due("fault(1)", x.fault(1), -1);
        due("fault(2)", x.fault(2), -1);
        due("fault(-1)", x.fault(-1), -1);
    }

    private static void faults() {
        promise = "4 and 5: fault 1";
        faulty("x", 1, 0);
        faulty("r1 \t", 1, 3);
        faulty("r1\u0000", 1, 2);
        faulty("r1\u00fff", 1, 2);
        faulty("1", 1, 0);
        faulty("9999", 1, 0);
        faulty("r", 1, 1);
        faulty("r  \n", 1, 4);
        faulty("rr", 1, 1);
        faulty("rw", 1, 1);
        faulty("r(", 1, 1);
        faulty("r1 2", 1, 3);
        faulty("r1+", 1, 3);
        faulty("r1+2", 1, 4);
        faulty("r1+2r3", 1, 4);
        faulty("r1*2", 1, 2);
        faulty("r1+2+3", 1, 4);
        faulty("r1+2*3+4", 1, 6);
        faulty("r1+2*", 1, 5);
        faulty("r1:5", 1, 2);
        faulty("w1", 1, 2);
        faulty("w1 r2", 1, 3);
        faulty("w1:", 1, 3);
        faulty("w1+2*3", 1, 2);
        faulty("w1:2+3*4", 1, 4);
        faulty("w1:2:3", 1, 4);
        faulty(")", 1, 0);
        faulty("(r1)2)", 1, 5);
        faulty("(r1", 1, 3);
        faulty("(r1)", 1, 4);
        faulty("(r1)r2", 1, 4);
        faulty("(r1))2", 1, 4);
        faulty("(r)2", 1, 2);
        faulty("(r1)2 3", 1, 6);
        faulty("(", 1, 1);
        faulty("((((r(", 1, 5);
        promise = "4 and 5: fault 2";
        faulty("r1024", 2, 1);
        faulty("r 99999999999999999999", 2, 2);
        faulty("r 4294967296", 2, 2);
        faulty("r 18446744073709551617", 2, 2);
        faulty("w1024:0", 2, 1);
        faulty("w0:10000", 2, 3);
        faulty("r0+1024*1", 2, 3);
        faulty("r0+1*0", 2, 5);
        faulty("r0+1*100", 2, 5);
        faulty("(r0)0", 2, 4);
        faulty("(r0)10", 2, 4);
        faulty("r1024 x", 2, 1);
        promise = "4 and 5: fault 3";
        faulty("(((((", 3, 4);
        faulty("( ( ( ( r1 (r2)2)2)2)2)2", 3, 11);
        faulty("(((( )1 ((", 3, 9);
        promise = "4 and 5: fault 4";
        faulty(many("(", 4) + "r0" + many(")9", 4), 4, 14);
        faulty("(r0+1*86)7", 4, 10);
        faulty("(r0+1*99)6 r0+1*6 r0 \n", 4, 22);
        faulty("((r0+1*99)9)9 r", 1, 15);
        faulty("((r0+1*99)9)9 r 1024", 2, 16);
        faulty("(r0+1*99)9 (w1:2)9", 4, 18);
        promise = "4: texts without a fault";
        SkewedWays x = new SkewedWays();
        due("600", told(x, "(r0+1*99)6 r0+1*6"), 0);
        due("length", x.length(0), 600);
        due("empty loops", told(x, "((((\n)9) 9)9 )9()1"), 1);
        due("length", x.length(1), 0);
        due("loops side by side", told(x, "(((()1()2)3()4)5()6)7()8(w0001:00009)2r01+0*02"), 2);
        due("length", x.length(2), 4);
        due("writes", x.writes(2), 2);
        due("step", x.step(2, 3), 1);
        due("wraps", told(x, "r1000+1023*3((r5)2 w6:1)2"), 3);
        int[] due = {1000, 999, 998, 5, 5, 6, 5, 5, 6};
        due("length", x.length(3), due.length);
        for (int i = 0; i < due.length; i++) {
            due("step", x.step(3, i), due[i]);
        }
    }

    private static void asking() {
        SkewedWays x = fresh("6");
        due("ask(-1)", x.ask(-1), -10000);
        due("ask(1024)", x.ask(1024), -10000);
        due("about(1)", x.about(1), 0);
        due("ask(1023)", x.ask(1023), 61);
        due("slot", x.slot(0, 3, 0), 1023);
        due("slot", x.slot(0, 3, 3), 2);
        due("ask(1023)", x.ask(1023), 61);
        due("slot", x.slot(0, 3, 3), 0);
        due("hits", x.is(3), 1);
        due("misses", x.is(4), 1);
        due("ask(3)", x.ask(3), 21);
        // 1023 has age 0, 3 has 2: 1 step on, 3 is the one that goes.
        due("ask(7)", x.ask(7), 49);
        due("where(3)", x.where(3), -1);
        due("slot", x.slot(0, 3, 3), 1);
        due("slot", x.slot(1, 3, 0), 7);
        due("slot", x.slot(1, 3, 3), 2);
        due("out", x.is(5), 1);
        due("back", x.is(6), 0);
        due("about(1)", x.about(1), 4);
        // Like ages: the first one goes.
        due("cool", x.cool(), 2);
        due("ages", x.slot(0, 3, 3), 2);
        due("cool", x.cool(), 1);
        due("ages", x.slot(0, 3, 3), 3);
        due("ages", x.slot(1, 3, 3), 3);
        due("ask(11)", x.ask(11), 77);
        due("where(1023)", x.where(1023), -1);
        due("where(11)", x.where(11), 0);
        due("age of 7 stays", x.slot(1, 3, 3), 3);
    }

    /** Three levels on a row of lines: in each slot one, the first empty slot three moves away. */
    private static void movesFarOff() {
        SkewedWays x = fresh("6: moves");
        due("shape", x.shape(2, 2), 8);
        // Way 0 takes bits 0 and 1, way 1 bits 2 and 3.
        x.mask(0, 0, 1);
        x.mask(0, 1, 2);
        x.mask(1, 0, 4);
        x.mask(1, 1, 8);
        due("ask", x.ask(0), 0);
        due("ask", x.ask(1), 7);
        due("ask", x.ask(2), 14);
        // 0 in (0, 0), 1 in (0, 1), 2 in (0, 2); (1, 0) is free for 16, twin of 0.
        due("ask", x.ask(16), 12);
        due("where", x.where(16), 1);
        due("write", x.write(5, 50), false);
        due("where", x.where(5), 1);
        // 32 meets 0 in (0, 0) and 16 in (1, 0): both lead no farther than each other.
        due("reach", x.reach(32, 0), 2);
        due("reach", x.reach(32, 3), 2);
        // 4 meets 0 in (0, 0) and 5 in (1, 1); 0 leads to (1, 0) with 16, 5 to (0, 1) with 1,
        // 16 to none that is new, 1 to none that is new.
        due("reach", x.reach(4, 0), 2);
        due("reach", x.reach(4, 1), 4);
        due("reach", x.reach(4, 3), 4);
        due("depth", x.depth(1), true);
        due("candidate", x.candidate(4, -1), 4);
        due("candidate", x.candidate(4, 0), 0);
        due("candidate", x.candidate(4, 1), 17);
        due("candidate", x.candidate(4, 2), 16);
        due("candidate", x.candidate(4, 3), 1);
        due("candidate", x.candidate(4, 4), -1);
        // All have age 2; 0 is used, 5 too; then 16 in (1, 0) is the first of the eldest.
        due("ask", x.ask(0), 0);
        due("ask", x.ask(5), 50);
        promise = "58";
        due("victim", x.victim(4), 16);
        promise = "59";
        due("moved", x.moved(4, -1), 1);
        due("moved", x.moved(4, 0), 0);
        due("moved", x.moved(4, 1), -1);
        due("moved", x.moved(4, -2), -1);
        promise = "6: moves";
        due("write", x.write(4, 44), false);
        due("where(4)", x.where(4), 0);
        due("where(0)", x.where(0), 1);
        due("where(16)", x.where(16), -1);
        due("age of the moved", x.slot(1, 0, 3), 1);
        due("age of the new", x.slot(0, 0, 3), 2);
        due("age of 5", x.slot(1, 1, 3), 1);
        due("age of 1", x.slot(0, 1, 3), 3);
        due("age of 2, no candidate", x.slot(0, 2, 3), 2);
        due("moves", x.is(7), 1);
        due("book", x.book(x.book(-1, 0) - 1, 0), 4);
        due("book", x.book(x.book(-1, 0) - 1, 1), 16);
        due("book", x.book(x.book(-1, 0) - 1, 2), 1);
        due("book", x.book(x.book(-1, 0) - 1, 3), 0);
    }

    /** One line after the other is moved on, the empty slot being of level 3. */
    private static void threeMoves() {
        SkewedWays x = fresh("59");
        x.mask(0, 0, 1);
        x.mask(0, 1, 2);
        x.mask(1, 0, 4);
        x.mask(1, 1, 8);
        // 0: (0,0); 16: (1,0); 4 in (1,1); 1 in (0,1), its other slot (1,0).
        x.ask(0);
        x.ask(16);
        x.ask(1);
        x.ask(5);
        // 5 is in (1,1), its other slot (0,1). Now 0 (0,0)/(1,0), 16 (1,0)/(0,0), 1 (0,1)/(1,0), 5 (1,1)/(0,1).
        // 4 is of (0,0), (1,1): level 1 (1,0), (0,1); nothing more.
        due("leave", x.leave(16), 12);
        due("ask", x.ask(17), 19);
        due("where(17)", x.where(17), 1);
        // 17 in (1,0), its other slot (0,1) with 1. 8 is of (0,0) with 0 and (1,2), empty.
        due("victim", x.victim(8), -1);
        due("ask", x.ask(8), 56);
        due("where(8)", x.where(8), 1);
        due("ask", x.ask(10), 70);
        due("where(10)", x.where(10), 0);
        due("leave", x.leave(10), 70);
        // (0,2) is empty; a line leads there, that is in way 1 and has bits 1, 0 as 2.
        due("leave", x.leave(5), 35);
        due("ask", x.ask(6), 42);
        due("where(6)", x.where(6), 0);
        due("leave", x.leave(6), 42);
        due("pin", x.pin(1, true), true);
        due("leave", x.leave(1), 7);
        due("pins", x.is(11), 0);
        // 0 (0,0), 17 (1,0)/(0,1) empty, 8 (1,2)/(0,0). For 40, (0,0) and (1,2): 0 leads to (1,0), 8 to none
        // that is new; 17 leads to (0,1), that is empty: two moves, 17 first.
        due("depth", x.depth(1), true);
        due("reach", x.reach(40, 1), 3);
        due("reach", x.reach(40, 2), 4);
        due("reach", x.reach(40, 3), 4);
        due("victim by depth 1", x.victim(40), 0);
        due("depth", x.depth(2), true);
        due("victim", x.victim(40), -1);
        due("moved", x.moved(40, -1), 2);
        due("moved", x.moved(40, 0), 17);
        due("moved", x.moved(40, 1), 0);
        due("moved", x.moved(40, 2), -1);
        due("write", x.write(0, 5), true);
        due("ask", x.ask(40), 80);
        due("where", x.where(40), 0);
        due("slot", x.slot(0, 1, 0), 17);
        due("slot", x.slot(1, 0, 0), 0);
        due("value moves on", x.slot(1, 0, 1), 5);
        due("dirty moves on", x.slot(1, 0, 2), 1);
        due("the new one isn't dirty", x.slot(0, 0, 2), 0);
        due("moves", x.is(7), 2);
        due("book", x.book(x.book(-1, 0) - 1, 2), 2);
    }

    private static void writing() {
        SkewedWays x = fresh("7");
        due("write", x.write(-1, 0), false);
        due("write", x.write(1024, 0), false);
        due("write", x.write(0, 10000), false);
        due("write", x.write(0, -10000), false);
        due("about(1)", x.about(1), 0);
        due("write", x.write(0, -9999), false);
        due("write", x.write(0, 9999), true);
        due("value", x.value(0), 9999);
        due("memory", x.memory(0), 0);
        due("dirty", x.slot(0, 0, 2), 1);
        due("age", x.slot(0, 0, 3), 0);
        due("hits", x.is(3), 1);
        due("about(1)", x.about(1), 2);
        due("write", x.write(4, 28), false);
        due("dirty by a like value", x.slot(1, 0, 2), 1);
        due("stale", x.stale(), 1);
        due("write", x.write(8, 3), false);
        due("where", x.where(4), -1);
        due("back", x.is(6), 1);
        due("write", x.write(12, 3), false);
        // 0 is 1 older by each of two that came, 8 has age 2 then.
        due("where", x.where(8), -1);
        due("memory", x.memory(8), 3);
        due("back", x.is(6), 2);
        due("out", x.is(5), 2);
    }

    private static void pinning() {
        SkewedWays x = fresh("8");
        due("pin", x.pin(0, true), false);
        due("pin", x.pin(-1, true), false);
        due("pin", x.pin(1024, false), false);
        x.ask(0);
        due("pin", x.pin(0, false), false);
        due("about(1)", x.about(1), 1);
        due("pin", x.pin(0, true), true);
        due("pin", x.pin(0, true), false);
        due("about(1)", x.about(1), 2);
        due("slot", x.slot(0, 0, 4), 1);
        due("reach", x.reach(4, 3), 1);
        due("candidate", x.candidate(4, 0), 16);
        x.ask(4);
        due("where", x.where(4), 1);
        due("victim", x.victim(8), 4);
        due("pin", x.pin(4, true), true);
        due("victim", x.victim(8), -1);
        due("moved", x.moved(8, -1), 0);
        due("reach", x.reach(8, 0), 0);
        due("ask", x.ask(8), 56);
        due("where", x.where(8), -1);
        due("bypassed", x.is(10), 1);
        due("misses", x.is(4), 3);
        due("book", x.book(2, 0), 8);
        due("book", x.book(2, 1), -1);
        due("book", x.book(2, 2), 0);
        due("book", x.book(2, 3), 1);
        due("write", x.write(8, -5), false);
        due("memory", x.memory(8), -5);
        due("value", x.value(8), -5);
        due("back isn't counted", x.is(6), 0);
        due("bypassed", x.is(10), 2);
        due("a hit on a pinned one", x.write(4, 9), true);
        due("pin", x.pin(4, false), true);
        due("ask", x.ask(8), -5);
        due("where", x.where(8), 1);
        due("memory", x.memory(4), 9);
        due("leave", x.leave(0), 0);
        due("pins", x.is(11), 0);
        due("slot", x.slot(0, 0, 4), 0);
        due("ask", x.ask(0), 0);
        due("not pinned when it comes again", x.slot(0, 0, 4), 0);
    }

    private static void cleaningLeavingCooling() {
        SkewedWays x = fresh("9");
        x.ask(5);
        due("clean", x.clean(5), -10000);
        due("clean", x.clean(6), -10000);
        due("clean", x.clean(-1), -10000);
        due("clean", x.clean(1024), -10000);
        x.write(5, 11);
        due("about(1)", x.about(1), 2);
        due("clean", x.clean(5), 11);
        due("memory", x.memory(5), 11);
        due("slot", x.slot(0, 1, 2), 0);
        due("slot", x.slot(0, 1, 1), 11);
        due("back", x.is(6), 1);
        due("about(1)", x.about(1), 3);
        promise = "10";
        due("leave", x.leave(6), -10000);
        due("leave", x.leave(-1), -10000);
        due("leave", x.leave(1024), -10000);
        due("about(1)", x.about(1), 3);
        due("leave", x.leave(5), 11);
        due("back", x.is(6), 1);
        x.write(5, 12);
        due("leave", x.leave(5), 12);
        due("memory", x.memory(5), 12);
        due("back", x.is(6), 2);
        due("out", x.is(5), 0);
        due("slot", x.slot(0, 1, 0), -1);
        due("slot", x.slot(0, 1, 1), 0);
        promise = "11";
        due("cool", x.cool(), 0);
        x.ask(0);
        x.ask(1);
        x.ask(1);
        x.pin(1, true);
        due("cool", x.cool(), 2);
        due("aged", x.aged(3), 1);
        due("aged", x.aged(1), 1);
        due("cool", x.cool(), 1);
        due("cool", x.cool(), 1);
        due("cool", x.cool(), 0);
        due("aged", x.aged(3), 2);
    }

    private static void trading() {
        SkewedWays x = fresh("12");
        due("trade", x.trade(0, 0), false);
        due("trade", x.trade(0, 2), false);
        due("trade", x.trade(-1, 1), false);
        due("trade", x.trade(2, 1), false);
        due("trade", x.trade(0, -1), false);
        due("about(1)", x.about(1), 0);
        x.family(1);
        x.write(1, 3);
        x.pin(1, true);
        due("where", x.where(1), 0);
        due("trade", x.trade(1, 0), true);
        due("where", x.where(1), 1);
        due("masked", x.masked(0, 0), 9);
        due("masked", x.masked(1, 0), 5);
        due("masked", x.masked(0, 1), 6);
        due("slot", x.slot(1, 1, 0), 1);
        due("slot", x.slot(1, 1, 1), 3);
        due("slot", x.slot(1, 1, 2), 1);
        due("slot", x.slot(1, 1, 3), 2);
        due("slot", x.slot(1, 1, 4), 1);
        due("slot", x.slot(0, 1, 0), -1);
        due("slot", x.slot(0, 1, 4), 0);
    }

    private static void emptyingShaping() {
        SkewedWays x = fresh("13");
        due("empty", x.empty(), 0);
        x.write(1, 1);
        x.write(2, 2);
        x.ask(3);
        x.pin(1, true);
        due("empty", x.empty(), 2);
        due("about(1)", x.about(1), 6);
        due("memory", x.memory(1), 1);
        due("memory", x.memory(2), 2);
        due("back", x.is(6), 2);
        due("out", x.is(5), 0);
        due("empty ones", x.is(9), 8);
        due("pins", x.is(11), 0);
        promise = "14";
        int[][] bad = {{0, 1}, {5, 1}, {1, 0}, {1, 5}, {-1, -1}};
        for (int[] b : bad) {
            due("shape", x.shape(b[0], b[1]), -1);
        }
        due("about(1)", x.about(1), 6);
        x.write(9, 5);
        x.depth(2);
        x.family(2);
        due("shape", x.shape(4, 4), 64);
        due("memory", x.memory(9), 5);
        due("depth stays", x.is(2), 2);
        due("empty ones", x.is(9), 64);
        for (int way = 0; way < 4; way++) {
            for (int bit = 0; bit < 4; bit++) {
                due("masked", x.masked(way, bit), 1 << bit);
            }
        }
        due("slot", x.slot(3, 15, 0), -1);
        due("slot", x.slot(3, 16, 0), -10000);
        due("slot", x.slot(4, 0, 0), -10000);
        for (int i = 0; i < 4; i++) {
            due("ask", x.ask(15 + 16 * i), (15 + 16 * i) * 7 % 100);
            due("where", x.where(15 + 16 * i), i);
        }
        due("shape", x.shape(3, 1), 6);
        due("ways", x.is(0), 3);
        due("bits", x.is(1), 1);
        due("empty ones", x.is(9), 6);
        due("masked", x.masked(2, 0), 1);
        due("masked", x.masked(2, 1), -1);
        due("masked", x.masked(3, 0), -1);
    }

    private static void families() {
        SkewedWays x = fresh("15");
        due("family", x.family(-1), -1);
        due("family", x.family(3), -1);
        due("about(1)", x.about(1), 0);
        x.write(1, 1);
        due("family", x.family(1), 3);
        due("back", x.is(6), 1);
        due("where", x.where(1), -1);
        due("memory", x.memory(1), 1);
        due("family", x.family(0), 2);
        due("shape", x.shape(4, 4), 64);
        due("family", x.family(1), 7);
        due("masked", x.masked(0, 0), 1 + 16);
        due("masked", x.masked(3, 3), 8 + 64);
        due("masked", x.masked(2, 1), 2 + 128);
        due("shape", x.shape(4, 1), 8);
        due("family", x.family(1), 1);
        due("masked", x.masked(3, 0), 3);
        due("shape", x.shape(1, 1), 2);
        due("family", x.family(2), 1);
        due("X", x.is(8), (431 * 853 + 461) % 30047);
        due("masked", x.masked(0, 0), (431 * 853 + 461) % 30047 % 1024);
        due("tell", x.tell(0), true);
        due("family", x.family(2), 1);
        due("masked", x.masked(0, 0), 461);
        due("undo", x.undo(), 9);
        due("X", x.is(8), 0);
        promise = "16";
        x = fresh("16");
        due("mask", x.mask(0, 0, -1), -1);
        due("mask", x.mask(0, 0, 1024), -1);
        due("mask", x.mask(0, 2, 1), -1);
        due("mask", x.mask(0, -1, 1), -1);
        due("mask", x.mask(2, 0, 1), -1);
        due("mask", x.mask(-1, 0, 1), -1);
        due("about(1)", x.about(1), 0);
        x.write(1, 9);
        due("mask", x.mask(1, 1, 1023), 2);
        due("memory", x.memory(1), 9);
        due("where", x.where(1), -1);
        due("masked", x.masked(1, 1), 1023);
        due("mask", x.mask(1, 0, 1023), 1);
        due("mask", x.mask(1, 0, 0), 1);
        due("mask", x.mask(1, 1, 0), 0);
        due("rank", x.rank(1, 1), 0);
        due("rank", x.rank(0, 1), 2);
        promise = "17";
        due("depth", x.depth(-1), false);
        due("depth", x.depth(4), false);
        due("about(1)", x.about(1), 5);
        due("depth", x.depth(3), true);
        due("is", x.is(2), 3);
        due("depth", x.depth(3), true);
        due("about(1)", x.about(1), 7);
    }

    private static void runningAndUndoing() {
        SkewedWays x = fresh("18");
        due("run", x.run(0), -1);
        due("run", x.run(-1), -1);
        told(x, "w1:5 r1 (w5:7 r9)2");
        due("run", x.run(1), -1);
        due("about(1)", x.about(1), 0);
        // 1, 5 come; 9: 1 has age 0, 5 has 2, so 5 goes; 5: 1 has 1, 9 has 2, so 9 goes;
        // 9: 1 and 5 have 2, so 1 goes, being the first one.
        due("run", x.run(0), 5);
        due("about(1)", x.about(1), 1);
        due("hits", x.is(3), 1);
        due("misses", x.is(4), 5);
        due("out", x.is(5), 3);
        due("memory", x.memory(5), 7);
        due("where(9)", x.where(9), 0);
        due("where(5)", x.where(5), 1);
        due("where(1)", x.where(1), -1);
        promise = "19";
        due("undo", x.undo(), 0);
        due("memory", x.memory(5), 35);
        due("misses", x.is(4), 0);
        due("book", x.book(-1, 0), 0);
        due("where(9)", x.where(9), -1);
        due("undo", x.undo(), -1);
        for (int i = 0; i < 25; i++) {
            due("ask", x.ask(i), i * 7 % 100);
            due("about(1)", x.about(1), Math.min(20, i + 1));
        }
        x.tell(99);
        x.gather(4);
        told(x, "r2");
        tape(x, "r");
        due("undo", x.undo(), 19);
        due("X is as ahead of it", x.is(8), 431);
        due("THE SET stays", x.gathered(0), 4);
        due("traces stay", x.about(0), 2);
        due("tape stays", x.about(2), 1);
        due("fault stays", x.fault(0), 0);
        for (int i = 18; i >= 0; i--) {
            due("undo", x.undo(), i);
        }
        due("undo", x.undo(), -1);
        due("misses", x.is(4), 5);
        due("where(4)", x.where(4), 1);
    }

    private static void undoingEach() {
        SkewedWays x = fresh("19");
        x.family(1);
        x.depth(1);
        x.write(1, 100);
        x.write(4, 400);
        int steps = 4;
        x.pin(1, true);
        due("undo", x.undo(), steps);
        due("pins", x.is(11), 0);
        x.clean(1);
        due("undo", x.undo(), steps);
        due("dirty", x.slot(0, 1, 2), 1);
        due("memory", x.memory(1), 7);
        due("back", x.is(6), 0);
        x.leave(1);
        due("undo", x.undo(), steps);
        due("where", x.where(1), 0);
        x.cool();
        due("undo", x.undo(), steps);
        due("aged", x.aged(2), 2);
        x.trade(0, 1);
        due("undo", x.undo(), steps);
        due("masked", x.masked(0, 0), 5);
        due("where", x.where(1), 0);
        x.empty();
        due("undo", x.undo(), steps);
        due("where", x.where(4), 1);
        due("memory", x.memory(4), 28);
        x.shape(4, 4);
        due("undo", x.undo(), steps);
        due("ways", x.is(0), 2);
        due("masked", x.masked(1, 1), 6);
        x.family(2);
        due("undo", x.undo(), steps);
        due("X", x.is(8), 431);
        due("masked", x.masked(1, 1), 6);
        x.mask(0, 0, 77);
        due("undo", x.undo(), steps);
        due("masked", x.masked(0, 0), 5);
        due("where", x.where(1), 0);
        x.depth(3);
        due("undo", x.undo(), steps);
        due("depth", x.is(2), 1);
        x.ask(11);
        due("moves", x.is(7), 1);
        due("undo", x.undo(), steps);
        due("moves", x.is(7), 0);
        due("book", x.book(-1, 0), 2);
        promise = "20";
        due("tell", x.tell(-1), false);
        due("tell", x.tell(30047), false);
        due("tell", x.tell(30046), true);
        due("X", x.is(8), 30046);
        due("about(1)", x.about(1), steps);
    }

    private static void theSet() {
        SkewedWays x = fresh("21");
        due("gather", x.gather(-1), -1);
        due("gather", x.gather(1024), -1);
        for (int i = 0; i < 32; i++) {
            due("gather", x.gather(i * 5), i + 1);
            due("gather", x.gather(i * 5), -1);
        }
        due("gather", x.gather(1023), -1);
        due("about(1)", x.about(1), 0);
        promise = "23";
        due("scatter", x.scatter(1), false);
        due("scatter", x.scatter(-1), false);
        due("scatter", x.scatter(5), true);
        due("scatter", x.scatter(5), false);
        promise = "51";
        due("gathered", x.gathered(-1), 31);
        due("gathered", x.gathered(1), 10);
        due("gathered", x.gathered(30), 155);
        due("gathered", x.gathered(31), -1);
        due("gathered", x.gathered(-2), -1);
        due("gather", x.gather(1023), 32);
        due("gathered", x.gathered(31), 1023);
        promise = "22";
        due("collect", x.collect(0), -1);
        due("collect", x.collect(-1), -1);
        due("gathered", x.gathered(-1), 32);
        told(x, "(r7 w3:1 r7+1*2)2 r900+1*40");
        told(x, "");
        due("collect", x.collect(0), 32);
        due("gathered", x.gathered(0), 7);
        due("gathered", x.gathered(1), 3);
        due("gathered", x.gathered(2), 8);
        due("gathered", x.gathered(3), 900);
        due("gathered", x.gathered(31), 928);
        due("collect", x.collect(2), -1);
        due("gathered", x.gathered(-1), 32);
        due("collect", x.collect(1), 0);
        due("gathered", x.gathered(-1), 0);
        due("gathered", x.gathered(0), -1);
    }

    private static void looking() {
        SkewedWays x = fresh("24");
        due("is", x.is(-1), -1);
        due("is", x.is(12), -1);
        promise = "25";
        due("masked", x.masked(-1, 0), -1);
        due("masked", x.masked(2, 0), -1);
        due("masked", x.masked(0, -1), -1);
        due("masked", x.masked(0, 2), -1);
        due("masked", x.masked(1, 0), 1);
        promise = "26";
        due("index", x.index(-1, 0), -1);
        due("index", x.index(1024, 0), -1);
        due("index", x.index(0, 2), -1);
        due("index", x.index(0, -1), -1);
        due("index", x.index(1022, 1), 2);
        x.mask(0, 0, 0b1011);
        due("index", x.index(0b1011, 0), 3);
        due("index", x.index(0b1001, 0), 0);
        due("index", x.index(0b0010, 0), 3);
        promise = "27";
        x.write(6, -3);
        due("slot", x.slot(0, 3, 0), 6);
        due("slot", x.slot(0, 3, 1), -3);
        due("slot", x.slot(0, 3, 5), -10000);
        due("slot", x.slot(0, 3, -1), -10000);
        due("slot", x.slot(0, -1, 0), -10000);
        due("slot", x.slot(-1, 0, 0), -10000);
        due("slot", x.slot(2, 0, 0), -10000);
        promise = "28";
        due("where", x.where(6), 0);
        due("where", x.where(-1), -1);
        due("where", x.where(1024), -1);
        promise = "29";
        due("memory", x.memory(6), 42);
        due("memory", x.memory(-1), -10000);
        due("memory", x.memory(1024), -10000);
        promise = "30";
        due("value", x.value(6), -3);
        due("value", x.value(7), 49);
        due("value", x.value(-1), -10000);
        due("value", x.value(1024), -10000);
        promise = "31";
        due("aged", x.aged(2), 1);
        due("aged", x.aged(0), 0);
        due("aged", x.aged(-1), 0);
        due("aged", x.aged(4), 0);
        promise = "32";
        due("book", x.book(0, 0), 6);
        due("book", x.book(0, -1), -2);
        due("book", x.book(0, 4), -2);
        due("book", x.book(1, 0), -2);
        due("book", x.book(-2, 0), -2);
        for (int line = 100; line < 124; line++) {
            x.ask(line);
            x.ask(line);
        }
        due("book", x.book(-1, 0), 24);
        due("book", x.book(0, 0), 100);
        due("book", x.book(23, 0), 123);
        due("book", x.book(24, 0), -2);
        promise = "33";
        x.empty();
        due("stale", x.stale(), 0);
        x.write(1, 7);
        due("stale", x.stale(), 0);
        x.write(2, 7);
        due("stale", x.stale(), 1);
    }

    private static void ranksAndTwins() {
        SkewedWays x = fresh("34");
        due("rank", x.rank(0, 2), -1);
        due("rank", x.rank(-1, 0), -1);
        due("rank", x.rank(2, 2), -1);
        x.family(1);
        due("rank", x.rank(1, 0), 3);
        due("rank", x.rank(1, 1), 2);
        x.mask(1, 0, 16);
        due("rank", x.rank(0, 1), 4);
        x.mask(1, 1, 15);
        // 5, 10 and 15 sum up to 0.
        due("rank", x.rank(0, 1), 3);
        promise = "35";
        x = fresh("35");
        due("twins", x.twins(-1), -1);
        due("twins", x.twins(1024), -1);
        x.family(1);
        due("twins", x.twins(7), 128);
        x.shape(1, 1);
        due("twins", x.twins(7), 512);
        x.mask(0, 0, 0);
        due("twins", x.twins(7), 1024);
        promise = "36";
        due("twin", x.twin(7, 1023), 1023);
        due("twin", x.twin(7, 1024), -1);
        due("twin", x.twin(7, -1), -1);
        due("twin", x.twin(-1, 0), -1);
        due("twin", x.twin(1024, 0), -1);
        x.mask(0, 0, 512);
        due("twin", x.twin(600, 0), 512);
        due("twin", x.twin(600, 511), 1023);
        due("twin", x.twin(600, 512), -1);
        promise = "37";
        x = fresh("37");
        due("together", x.together(-1, 0), -1);
        due("together", x.together(0, 1024), -1);
        due("together", x.together(9, 9), 2);
        x.mask(1, 0, 8);
        due("together", x.together(1, 9), 1);
        due("together", x.together(0, 16), 2);
        due("together", x.together(0, 9), 0);
    }

    private static void strides() {
        SkewedWays x = fresh("38");
        int[][] bad = {{-1, 1, 1, 0}, {2, 1, 1, 0}, {0, 0, 1, 0}, {0, 1024, 1, 0}, {0, 1, 0, 0}, {0, 1, 65, 0}, {0, 1, 1, 2}, {0, 1, 1, -1}};
        for (int[] b : bad) {
            due("spread", x.spread(b[0], b[1], b[2], b[3]), -1);
        }
        due("spread", x.spread(0, 1023, 3, 0), 3);
        due("spread", x.spread(0, 1023, 64, 1), 16);
        due("spread", x.spread(0, 1, 1, 0), 1);
        due("spread", x.spread(1, 2, 7, 0), 2);
        due("spread", x.spread(1, 2, 7, 1), 4);
        x.mask(0, 0, 512);
        due("spread", x.spread(0, 512, 64, 0), 2);
        due("spread, n of them", x.spread(0, 512, 64, 1), 32);
        promise = "39";
        x = fresh("39");
        due("even", x.even(-1), -1);
        due("even", x.even(2), -1);
        due("even", x.even(1), 32);
        x.mask(0, 0, 2);
        due("even", x.even(0), 0);
        promise = "40";
        due("evenAll", x.evenAll(), 0);
        x = fresh("40");
        // By 8 and 16 the strides 8, 24, 40, 56 are even: LINES 0, 8, 16, 24 and so on.
        x.mask(0, 0, 8);
        x.mask(0, 1, 16);
        int all = 0;
        for (int stride = 1; stride <= 63; stride++) {
            boolean is = x.spread(0, stride, 4, 0) == 4 && x.spread(1, stride, 4, 0) == 4;
            all += is ? 1 : 0;
        }
        due("evenAll", x.evenAll(), all);
        due("even", x.spread(0, 8, 4, 0), 4);
        due("not even in the other", x.spread(1, 8, 4, 0), 1);
        promise = "41";
        x = fresh("41");
        due("scattered", x.scattered(-1, 0, 1), -1);
        due("scattered", x.scattered(1024, 0, 1), -1);
        due("scattered", x.scattered(0, 0, 0), -1);
        due("scattered", x.scattered(0, 0, 2), -1);
        due("scattered", x.scattered(0, -1, 1), -1);
        x.family(1);
        due("scattered", x.scattered(9, 0, 1), 2);
        x.mask(1, 0, 64);
        x.mask(1, 1, 128);
        due("scattered", x.scattered(9, 0, 1), 4);
        promise = "42";
        x = fresh("42");
        due("worst", x.worst(-1, 1), -1);
        due("worst", x.worst(2, 1), -1);
        due("worst", x.worst(0, 0), -1);
        due("worst", x.worst(0, 65), -1);
        due("worst", x.worst(0, 1), 1);
        due("worst", x.worst(0, 2), 4);
        due("worst", x.worst(1, 64), 4);
        x.mask(1, 0, 0);
        due("worst", x.worst(1, 64), 4);
        x.mask(1, 1, 0);
        due("worst", x.worst(1, 64), 1);
    }

    private static void flips() {
        SkewedWays x = fresh("43");
        due("flipped", x.flipped(0, 0, -1), -1);
        due("flipped", x.flipped(0, 0, 10), -1);
        due("flipped", x.flipped(0, 2, 0), -1);
        due("flipped", x.flipped(0, -1, 0), -1);
        due("flipped", x.flipped(2, 0, 0), -1);
        // 3 and 2: one to one with 1 and 2 over the low two bits.
        due("flipped", x.flipped(0, 0, 1), 32);
        due("flipped", x.flipped(0, 1, 1), 0);
        due("masked", x.masked(0, 0), 1);
        due("masked", x.masked(0, 1), 2);
        promise = "44";
        due("bestFlip", x.bestFlip(-1), -1);
        due("bestFlip", x.bestFlip(2), -1);
        x = fresh("44");
        x.shape(1, 1);
        x.mask(0, 0, 0);
        // By 2^k alone the strides with that bit are even: 32 of 1 .. 63 for k 0 .. 5; the lowest is taken.
        due("even", x.even(0), 0);
        due("bestFlip", x.bestFlip(0), 0);
        x.mask(0, 0, 1);
        due("even", x.even(0), 32);
        due("bestFlip", x.bestFlip(0), -1);
        x.shape(2, 2);
        x.mask(1, 0, 2);
        due("bestFlip", x.bestFlip(1), 0);
        due("flipped", x.flipped(1, 0, 0), 32);
        x.mask(1, 0, 1);
        x.mask(1, 1, 1);
        due("bestFlip", x.bestFlip(1), 1);
        x.mask(1, 0, 1);
        x.mask(1, 1, 0);
        // 1 and 0: the second mask's bit 1 makes them plain.
        due("bestFlip", x.bestFlip(1), 17);
    }

    private static void sweeps() {
        SkewedWays x = fresh("45");
        int[][] bad = {{0, 1, 1}, {1024, 1, 1}, {1, 0, 1}, {1, 65, 1}, {1, 1, 0}, {1, 1, 10}};
        for (int[] b : bad) {
            due("sweep", x.sweep(b[0], b[1], b[2]), -1);
        }
        x.ask(0);
        x.pin(0, true);
        x.ask(4);
        x.pin(4, true);
        due("sweep", x.sweep(1, 8, 9), 8);
        due("sweep", x.sweep(4, 3, 9), 27);
        due("sweep", x.sweep(512, 64, 9), 2);
        due("sweep", x.sweep(1023, 8, 2), 8);
        due("where", x.where(0), 0);
        due("misses", x.is(4), 2);
        promise = "46";
        due("holds", x.holds(0, 1), -1);
        due("holds", x.holds(1024, 1), -1);
        due("holds", x.holds(1, 0), -1);
        due("holds", x.holds(1, 65), -1);
        due("holds", x.holds(1, 1), 1);
        due("holds", x.holds(1, 64), 8);
        due("holds", x.holds(2, 64), 4);
        due("holds", x.holds(1, 7), 7);
        promise = "47";
        due("pairs", x.pairs(0), -1);
        due("pairs", x.pairs(65), -1);
        due("pairs", x.pairs(1), 0);
        due("pairs", x.pairs(64), 4 * 16 * 15 / 2);
        x.mask(1, 0, 8);
        due("pairs", x.pairs(8), 4);
        due("pairs", x.pairs(9), 4);
        // The low bits 0, 1 and 3: twos k and k + 4, and 16 with 0 and 4.
        due("pairs", x.pairs(17), 10);
        promise = "49";
        x = fresh("49");
        due("room", x.room(0), -1);
        due("room", x.room(1024), -1);
        due("room", x.room(1023), 8);
        due("room", x.room(512), 64);
        due("room", x.room(256), 2);
        x.shape(4, 4);
        due("room", x.room(1), 64);
        due("room", x.room(2), 32);
        due("room", x.room(16), 4);
        due("room", x.room(256), 64);
        due("room", x.room(128), 4);
        x.shape(1, 1);
        x.mask(0, 0, 0);
        due("room", x.room(1), 1);
    }

    private static void setWorth() {
        SkewedWays x = fresh("48");
        due("shares", x.shares(-1), -1);
        due("shares", x.shares(3), -1);
        x.mask(1, 0, 4);
        x.mask(1, 1, 8);
        // Way 0 by bits 0 and 1, way 1 by bits 2 and 3.
        int[] lines = {0, 1, 4, 16, 10};
        for (int line : lines) {
            x.gather(line);
        }
        // 0 and 16 in both; 0-1, 1-16 in way 1; 0-4, 4-16 in way 0; 10 alone: (2, 2).
        due("shares", x.shares(2), 1);
        due("shares", x.shares(1), 4);
        due("shares", x.shares(0), 5);
        promise = "50";
        due("crowd", x.crowd(0, false), 0);
        due("crowd", x.crowd(0, true), 3);
        due("crowd", x.crowd(1, true), 3);
        due("crowd", x.crowd(-1, true), -1);
        due("crowd", x.crowd(2, false), -1);
        promise = "52";
        due("fitting", x.fitting(), 5);
        promise = "54";
        due("pieces", x.pieces(), 2);
        promise = "55";
        due("piece", x.piece(4), 4);
        due("piece", x.piece(10), 1);
        due("piece", x.piece(2), -1);
        due("piece", x.piece(-1), -1);
        promise = "52";
        x.gather(32);
        due("fitting", x.fitting(), 5);
        x.gather(48);
        due("fitting", x.fitting(), 5);
        promise = "53";
        // By the low two bits: 0, 4, 16, 32, 48 are one, 1 and 10 alone.
        due("fittingPlainly", x.fittingPlainly(), 4);
        promise = "50";
        x = fresh("50");
        x.gather(6);
        due("crowd", x.crowd(0, false), 2);
        x.gather(1);
        due("crowd of like ones", x.crowd(1, false), 1);
        promise = "54";
        due("pieces", x.pieces(), 2);
        x.shape(3, 2);
        x.mask(0, 0, 7);
        due("pieces", x.pieces(), 2);
        promise = "53";
        x = fresh("53");
        x.shape(3, 1);
        for (int line = 0; line < 10; line += 2) {
            x.gather(line);
        }
        due("fittingPlainly", x.fittingPlainly(), 3);
        x.mask(1, 0, 2);
        due("fittingPlainly", x.fittingPlainly(), 3);
        due("fitting", x.fitting(), 4);
    }

    private static void foretellingLines() {
        SkewedWays x = fresh("56");
        due("reach", x.reach(-1, 0), -1);
        due("reach", x.reach(1024, 0), -1);
        due("reach", x.reach(0, -1), -1);
        due("reach", x.reach(0, 4), -1);
        x.ask(0);
        due("reach", x.reach(0, 3), 0);
        due("reach", x.reach(4, 3), 2);
        promise = "57";
        due("candidate", x.candidate(-1, -1), -1);
        due("candidate", x.candidate(1024, 0), -1);
        due("candidate", x.candidate(0, -1), 0);
        due("candidate", x.candidate(0, 0), -1);
        due("candidate", x.candidate(4, 1), 16);
        due("candidate", x.candidate(4, -2), -1);
        promise = "58";
        due("victim", x.victim(-1), -1);
        due("victim", x.victim(1024), -1);
        due("victim", x.victim(0), -1);
        x.ask(4);
        due("victim", x.victim(8), 0);
        due("ages stay", x.slot(0, 0, 3), 2);
        promise = "59";
        due("moved", x.moved(-1, -1), -1);
        due("moved", x.moved(1024, -1), -1);
        due("moved", x.moved(0, -1), 0);
        due("moved", x.moved(8, 0), -1);
        due("about(1)", x.about(1), 2);
    }

    private static void traces() {
        SkewedWays x = fresh("60");
        for (int t = -1; t < 2; t++) {
            due("length", x.length(t), -1);
            due("step", x.step(t, 0), -1);
            due("wide", x.wide(t), -1);
            due("writes", x.writes(t), -1);
            due("working", x.working(t, 1), -1);
            due("hottest", x.hottest(t, true), -1);
            due("hottest", x.hottest(t, false), -1);
            due("hits", x.hits(t), -1);
            due("misses", x.misses(t, 0), -1);
            due("deepest", x.deepest(t), -1);
            due("suited", x.suited(t), -1);
            due("ideal", x.ideal(t), -1);
            due("distance", x.distance(t, 0), -1);
            due("recent", x.recent(t, 1), -1);
            due("conflicts", x.conflicts(t), -10000);
        }
        told(x, "r3 r1 w3:4 r2 r1 w3:4 r9");
        told(x, "");
        due("length", x.length(0), 7);
        promise = "61";
        due("step", x.step(0, -1), -1);
        due("step", x.step(0, 6), 9);
        due("step", x.step(0, 7), -1);
        due("step", x.step(1, 0), -1);
        promise = "62";
        due("wide", x.wide(0), 4);
        due("wide", x.wide(1), 0);
        promise = "63";
        due("writes", x.writes(0), 2);
        due("writes", x.writes(1), 0);
        promise = "64";
        due("working", x.working(0, 0), -1);
        due("working", x.working(0, 100), -1);
        due("working", x.working(0, 1), 1);
        due("working", x.working(0, 2), 2);
        due("working", x.working(0, 3), 3);
        due("working", x.working(0, 4), 4);
        due("working", x.working(0, 99), 4);
        due("working", x.working(1, 99), 0);
        promise = "65";
        due("hottest", x.hottest(0, false), 3);
        due("hottest", x.hottest(0, true), 3);
        due("hottest", x.hottest(1, false), -1);
        due("hottest", x.hottest(1, true), 0);
        told(x, "(r7 r6 r8)2");
        due("hottest of like ones", x.hottest(2, false), 6);
        promise = "71";
        due("distance", x.distance(0, 0), -1);
        due("distance", x.distance(0, 2), 1);
        due("distance", x.distance(0, 4), 2);
        due("distance", x.distance(0, 5), 2);
        due("distance", x.distance(0, 6), -1);
        due("distance", x.distance(0, 7), -1);
        due("distance", x.distance(0, -1), -1);
        promise = "72";
        due("recent", x.recent(0, 0), -1);
        due("recent", x.recent(0, 65), -1);
        due("recent", x.recent(0, 1), 7);
        due("recent", x.recent(0, 2), 6);
        due("recent", x.recent(0, 3), 4);
        due("recent", x.recent(1, 64), 0);
    }

    private static void tracesForetold() {
        SkewedWays x = fresh("66");
        told(x, "(r0 r4 r8)3");
        due("hits", x.hits(0), 0);
        x.ask(8);
        // 8 is there, but goes when 4 comes.
        due("hits from now on", x.hits(0), 0);
        x.pin(8, true);
        due("hits, one being pinned", x.hits(0), 3);
        promise = "67";
        due("misses", x.misses(0, -1), -1);
        due("misses", x.misses(0, 4), -1);
        due("misses", x.misses(0, 0), 9);
        due("misses", x.misses(0, 3), 9);
        due("nothing is changed", x.is(4), 1);
        due("nothing is changed", x.is(11), 1);
        due("nothing is changed", x.about(1), 2);
        promise = "68";
        due("deepest", x.deepest(0), 0);
        promise = "69";
        due("suited", x.suited(0), 1);
        promise = "70";
        due("ideal", x.ideal(0), 3);
        x.shape(1, 1);
        // 0 4 | 8 for 0? Best: 0 4 8 (4 goes) 0 4 (0.. goes) 8: hits of 0, 8 and one more.
        due("ideal of two", x.ideal(0), 6);
        due("recent of two", x.recent(0, 2), 9);
        promise = "73";
        x.shape(2, 2);
        due("conflicts", x.conflicts(0), 6);
        x.family(1);
        promise = "66";
        due("hits", x.hits(0), 6);
        promise = "73";
        due("conflicts", x.conflicts(0), 0);
        due("conflicts below 0 or not", x.conflicts(1), -10000);
        promise = "68";
        x = fresh("68");
        x.mask(0, 0, 1);
        x.mask(0, 1, 2);
        x.mask(1, 0, 4);
        x.mask(1, 1, 8);
        // 0 (0,0), 16 (1,0), 1 (0,1), then 4: (0,0) has 0, (1,1) is empty; 20 is 4's twin: level 1 is needed.
        told(x, "(r0 r4 r1 r20 r5)3");
        int best = 0;
        for (int d = 1; d < 4; d++) {
            best = x.misses(0, d) < x.misses(0, best) ? d : best;
        }
        due("deepest", x.deepest(0), best);
        due("ideal", x.ideal(0), 5);
    }

    private static void fewerByDepth() {
        SkewedWays x = fresh("68");
        x.mask(0, 0, 1);
        x.mask(0, 1, 2);
        x.mask(1, 0, 4);
        x.mask(1, 1, 8);
        // 0 in (0,0), 4 in (1,1); 20 is of both these: by depth 1 one of them moves on, none goes;
        // by depth 0 it's 0 that goes, and comes to (1,0) then.
        told(x, "(r0 r4 r20)2");
        due("misses", x.misses(0, 0), 4);
        due("misses", x.misses(0, 1), 3);
        due("deepest", x.deepest(0), 1);
        due("conflicts", x.conflicts(0), 1);
        x.depth(1);
        promise = "73";
        due("conflicts", x.conflicts(0), 0);
        promise = "66";
        due("hits", x.hits(0), 3);
    }

    private static void ratios() {
        SkewedWays x = fresh("74");
        due("ratio", x.ratio(), 0);
        x.ask(0);
        due("ratio of no hits", x.ratio(), Double.doubleToRawLongBits(0.0));
        int hits = 0;
        for (int i = 0; i < 400; i++) {
            x.ask(0);
            hits++;
            due("ratio", x.ratio(), Double.doubleToRawLongBits((double) hits / (double) (hits + 1)));
            if (i == 240) {
                break;
            }
        }
        x = fresh("74");
        told(x, "(r0+4*60)9");
        for (int i = 0; i < 200; i++) {
            x.run(0);
        }
        x.ask(4 * 59);
        due("ratio of few hits", x.ratio(), Double.doubleToRawLongBits((double) x.is(3) / (double) (x.is(3) + x.is(4))));
        due("there are some", x.is(3) > 0, true);
    }

    private static void images() {
        SkewedWays x = fresh("75");
        due("image", x.image(), 0);
        x.write(1, 5);
        x.pin(1, true);
        x.ask(2);
        x.depth(2);
        x.gather(9);
        x.gather(3);
        told(x, "r1");
        x.tell(77);
        due("image", x.image(), 2);
        due("it is no step", x.about(1), 4);
        promise = "76";
        x.shape(4, 4);
        x.undo();
        x.undo();
        x.ask(700);
        x.scatter(9);
        told(x, "r2");
        told(x, "x");
        tape(x, "r3 r4");
        due("back", x.back(), 2);
        due("ways", x.is(0), 2);
        due("depth", x.is(2), 2);
        due("X", x.is(8), 77);
        due("pins", x.is(11), 1);
        due("where", x.where(700), -1);
        due("gathered", x.gathered(0), 9);
        due("gathered", x.gathered(-1), 2);
        due("traces", x.about(0), 1);
        due("steps", x.about(1), 4);
        due("the tape is none of it", x.about(2), 5);
        due("the fault is none of it", x.fault(0), 1);
        due("undo", x.undo(), 3);
        due("depth", x.is(2), 0);
        due("undo", x.undo(), 2);
        due("where", x.where(2), -1);
        due("it stays", x.back(), 2);
        due("steps", x.about(1), 4);
        due("text", x.text(), 1);
        due("step", x.step(1, 1), 4);
        promise = "77";
        due("about", x.about(-1), -2);
        due("about", x.about(3), -2);
        due("about", x.about(0), 2);
        due("about", x.about(2), 0);
    }

    /** Steps behind an image of many: the ring of steps goes round ahead of it. */
    private static void imageOfManySteps() {
        SkewedWays x = fresh("75 and 76");
        for (int i = 0; i < 27; i++) {
            x.write(0, i);
        }
        x.image();
        for (int i = 0; i < 9; i++) {
            x.write(0, 100 + i);
        }
        x.back();
        due("about", x.about(1), 20);
        for (int i = 19; i >= 0; i--) {
            due("undo", x.undo(), i);
            due("value", x.value(0), 7 + i - 1);
        }
        due("undo", x.undo(), -1);
        x.back();
        x.write(0, 500);
        due("undo", x.undo(), 19);
        due("value", x.value(0), 26);
        due("undo", x.undo(), 18);
        due("value", x.value(0), 25);
    }

    public static void main(String[] args) {
        due("NONE", SkewedWays.NONE, -1);
        newObject();
        tapeAndTexts();
        faults();
        asking();
        movesFarOff();
        threeMoves();
        writing();
        pinning();
        cleaningLeavingCooling();
        trading();
        emptyingShaping();
        families();
        runningAndUndoing();
        undoingEach();
        theSet();
        looking();
        ranksAndTwins();
        strides();
        flips();
        sweeps();
        setWorth();
        foretellingLines();
        traces();
        tracesForetold();
        fewerByDepth();
        ratios();
        images();
        imageOfManySteps();
        System.out.println(wrong == 0 ? "all answers are as due" : wrong + " answers are not as due");
        if (wrong != 0) {
            System.exit(1);
        }
    }
}
