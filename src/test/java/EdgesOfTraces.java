/** Part III of the document: lines and traces foretold, and what is asked of a trace by itself, at the edges. */
public final class EdgesOfTraces {
    private static SkewedWays parted(String... texts) {
        SkewedWays x = new SkewedWays();
        Looks.partWays(x, 2, 2);
        for (int i = 0; i < texts.length; i++) {
            Looks.due("text", Looks.told(x, texts[i]), i);
        }
        return x;
    }

    private static SkewedWays plain(String... texts) {
        SkewedWays x = new SkewedWays();
        for (int i = 0; i < texts.length; i++) {
            Looks.due("text", Looks.told(x, texts[i]), i);
        }
        return x;
    }

    private static void noTrace() {
        Looks.at("NONE for others: a TRACE that isn't there");
        SkewedWays x = plain("r1", "r2");
        int[] bad = {-1, 2, 3, 4, Integer.MIN_VALUE, Integer.MAX_VALUE};
        for (int trace : bad) {
            Looks.due("length", x.length(trace), -1);
            Looks.due("step", x.step(trace, 0), -1);
            Looks.due("wide", x.wide(trace), -1);
            Looks.due("writes", x.writes(trace), -1);
            Looks.due("working", x.working(trace, 1), -1);
            Looks.due("hottest", x.hottest(trace, false), -1);
            Looks.due("hottest", x.hottest(trace, true), -1);
            Looks.due("hits", x.hits(trace), -1);
            Looks.due("misses", x.misses(trace, 0), -1);
            Looks.due("deepest", x.deepest(trace), -1);
            Looks.due("suited", x.suited(trace), -1);
            Looks.due("ideal", x.ideal(trace), -1);
            Looks.due("distance", x.distance(trace, 0), -1);
            Looks.due("recent", x.recent(trace, 1), -1);
            Looks.due("conflicts", x.conflicts(trace), -10000);
            Looks.due("run", x.run(trace), -1);
            Looks.due("collect", x.collect(trace), -1);
        }
    }

    private static void emptyTrace() {
        Looks.at("a TRACE of no LINES");
        SkewedWays x = plain("");
        Looks.due("length", x.length(0), 0);
        Looks.due("step", x.step(0, 0), -1);
        Looks.due("wide", x.wide(0), 0);
        Looks.due("writes", x.writes(0), 0);
        Looks.due("working(0, 1)", x.working(0, 1), 0);
        Looks.due("working(0, 99)", x.working(0, 99), 0);
        Looks.due("hottest, the LINE (NONE: it has none)", x.hottest(0, false), -1);
        Looks.due("hottest, how often", x.hottest(0, true), 0);
        Looks.due("hits", x.hits(0), 0);
        Looks.due("misses", x.misses(0, 3), 0);
        Looks.due("deepest, of like ones the least", x.deepest(0), 0);
        Looks.due("suited, of like ones 0", x.suited(0), 0);
        Looks.due("ideal", x.ideal(0), 0);
        Looks.due("distance", x.distance(0, 0), -1);
        Looks.due("recent", x.recent(0, 64), 0);
        Looks.due("conflicts", x.conflicts(0), 0);
        Looks.due("collect", x.collect(0), 0);
        Looks.due("run", x.run(0), 0);
    }

    private static void longest() {
        Looks.at("a TRACE of 600 LINES");
        SkewedWays x = plain("(r0+7*99)6 r0+7*6", "((w3:4)9 r9)9 r5", "r0+1*99 r99+1*99 r198+1*99 r297+1*99 r396+1*99 r495+1*99 r594+1*6");
        Looks.due("length", x.length(0), 600);
        Looks.due("step(0, 599)", x.step(0, 599), 35);
        Looks.due("step(0, 600)", x.step(0, 600), -1);
        int[] far = {-1, 600, 601, 1199, 1200, 10000, Integer.MIN_VALUE, Integer.MAX_VALUE};
        for (int i : far) {
            Looks.due("step(0, " + i + ")", x.step(0, i), -1);
            Looks.due("distance(0, " + i + ")", x.distance(0, i), -1);
        }
        for (int i = 91; i < 120; i++) {
            Looks.due("step(1, " + i + ")", x.step(1, i), -1);
            Looks.due("distance(1, " + i + ")", x.distance(1, i), -1);
        }
        Looks.due("wide", x.wide(0), 99);
        Looks.due("hottest", x.hottest(0, false), 0);
        Looks.due("how often", x.hottest(0, true), 7);
        Looks.due("distance(0, 98)", x.distance(0, 98), -1);
        Looks.due("distance(0, 99)", x.distance(0, 99), 98);
        Looks.due("distance(0, 599)", x.distance(0, 599), 98);
        Looks.due("distance(0, 600)", x.distance(0, 600), -1);
        Looks.due("distance(0, -1)", x.distance(0, -1), -1);
        Looks.due("recent of 64", x.recent(0, 64), 600);
        Looks.due("writes", x.writes(1), 81);
        Looks.due("length", x.length(1), 91);
        Looks.due("length", x.length(2), 600);
        Looks.due("wide, all unlike", x.wide(2), 600);
        Looks.due("misses, all unlike", x.misses(2, 3), 600);
        Looks.due("ideal, all unlike", x.ideal(2), 600);
        Looks.due("recent, all unlike", x.recent(2, 64), 600);
        Looks.due("hottest, of like ones the lowest", x.hottest(2, false), 0);
        Looks.due("once", x.hottest(2, true), 1);
        Looks.due("hits, all unlike", x.hits(2), 0);
        Looks.due("working(2, 99)", x.working(2, 99), 99);
        Looks.due("run", x.run(2), 600);
        Looks.due("misses", x.is(4), 600);
        Looks.due("out", x.is(5), 592);
    }

    private static void working() {
        Looks.at("WORKING by n (1 .. 99): the most unlike LINES in n of it (in all, if it has fewer)");
        SkewedWays x = plain("r1 r2 r1 r2 r3 r1 r1 r1", "r0+1*99 r0", "r5", "(r7)9 r8 r9 r1 (r7)9 r6 r5");
        int[] due = {1, 2, 3, 3, 3, 3, 3, 3, 3};
        for (int n = 1; n <= 9; n++) {
            Looks.due("working(0, " + n + ")", x.working(0, n), due[n - 1]);
        }
        Looks.due("working(0, 0)", x.working(0, 0), -1);
        Looks.due("working(0, 100)", x.working(0, 100), -1);
        Looks.due("working(0, 99)", x.working(0, 99), 3);
        Looks.due("working(1, 98)", x.working(1, 98), 98);
        Looks.due("working(1, 99)", x.working(1, 99), 99);
        Looks.due("working(2, 1)", x.working(2, 1), 1);
        Looks.due("working(2, 2)", x.working(2, 2), 1);
        Looks.due("working(3, 3): 8 9 1", x.working(3, 3), 3);
        Looks.due("working(3, 4): 7 8 9 1", x.working(3, 4), 4);
        Looks.due("working(3, 12)", x.working(3, 12), 4);
        Looks.due("working(3, 13): 1 and 7 nine times and 6 5", x.working(3, 13), 5);
        Looks.due("working(3, 14)", x.working(3, 14), 6);
    }

    private static void hottest() {
        Looks.at("HOTTEST: the LINE that comes most often, of like ones the lowest");
        SkewedWays x = plain("r9 r3 r9 r3 r5", "r1023 w1023:1 r0", "r1023 r0", "(w4:1)2 r2 r2 r9");
        Looks.due("hottest(0)", x.hottest(0, false), 3);
        Looks.due("how often", x.hottest(0, true), 2);
        Looks.due("hottest(1), READ and WRITTEN", x.hottest(1, false), 1023);
        Looks.due("how often", x.hottest(1, true), 2);
        Looks.due("hottest(2)", x.hottest(2, false), 0);
        Looks.due("how often", x.hottest(2, true), 1);
        Looks.due("hottest(3)", x.hottest(3, false), 2);
        Looks.due("how often", x.hottest(3, true), 2);
    }

    private static void distances() {
        Looks.at("DISTANCE of the i-th: unlike LINES between it and the latest one ahead of it that is its LINE");
        SkewedWays x = plain("r1 r1 w1:2 r2 r3 r3 r2 r1 r2 r4");
        int[] due = {-1, 0, 0, -1, -1, 0, 1, 2, 1, -1};
        for (int i = 0; i < due.length; i++) {
            Looks.due("distance(0, " + i + ")", x.distance(0, i), due[i]);
        }
        Looks.due("distance(0, 10)", x.distance(0, 10), -1);
        Looks.due("distance(0, -1)", x.distance(0, -1), -1);
    }

    private static void recent() {
        Looks.at("RECENT, n (1 .. 64): MISSES, had any of n SLOTS room for any LINE");
        SkewedWays x = plain("(r0+1*64)2", "(r0+1*65)2", "r1 r1 w1:3 r2 r1 r2", "r1 r2 r1 r3 r1 r2");
        Looks.due("recent(0, 0)", x.recent(0, 0), -1);
        Looks.due("recent(0, 65)", x.recent(0, 65), -1);
        Looks.due("recent(0, -1)", x.recent(0, -1), -1);
        Looks.due("64 LINES, 64 SLOTS", x.recent(0, 64), 64);
        Looks.due("64 LINES, 63 SLOTS", x.recent(0, 63), 128);
        Looks.due("65 LINES, 64 SLOTS", x.recent(1, 64), 130);
        Looks.due("one SLOT", x.recent(2, 1), 4);
        Looks.due("two SLOTS", x.recent(2, 2), 2);
        Looks.due("2 goes OUT, for 1 was ASKED for behind it", x.recent(3, 2), 4);
        Looks.due("three SLOTS", x.recent(3, 3), 3);
        Looks.due("it is of no SLOTS of now", x.recent(0, 1), 128);
    }

    private static void ideal() {
        Looks.at("IDEAL: the fewest MISSES (as many SLOTS, EMPTY ahead of it), what goes OUT being chosen so");
        SkewedWays x = plain("(r0+1*9)9", "(r0+1*12)9", "(r0 r2 r4)3", "r0 r2 r4 r0 r2 w4:1");
        Looks.due("9 LINES, 8 SLOTS", x.ideal(0), 18);
        Looks.due("12 LINES, 8 SLOTS", x.ideal(1), 45);
        Looks.due("3 LINES", x.ideal(2), 3);
        for (int line = 0; line < 8; line++) {
            x.ask(line);
            x.pin(line, true);
        }
        Looks.due("all EMPTY ahead of it", x.ideal(0), 18);
        x.shape(1, 1);
        // 0, 2; 4 for 2; 0; 2 for 0, that comes later than 4; 4; 0 for 4, that comes later than 2; and so on.
        Looks.due("3 LINES, 2 SLOTS", x.ideal(2), 6);
        Looks.due("each MISS comes to a SLOT", x.ideal(3), 4);
        x.shape(4, 4);
        Looks.due("12 LINES, 64 SLOTS", x.ideal(1), 12);
        x = plain("(r0+1*65)2", "(r0+1*64)2", "(r0+1*99)3");
        x.shape(4, 4);
        Looks.due("65 LINES, 64 SLOTS", x.ideal(0), 66);
        Looks.due("64 LINES, 64 SLOTS", x.ideal(1), 64);
        // Of the 198 LINES of rounds two and three 128 can be HITS: some 63 of 98, the first 63 of round two among them.
        Looks.due("99 LINES, 64 SLOTS", x.ideal(2), 169);
    }

    /** What was asked of another trace ahead of it doesn't matter. */
    private static void idealAnew() {
        SkewedWays x = plain("r9", "r2 r0 r4 r2", "r0 r2 r4 r2", "");
        x.shape(1, 1);
        Looks.due("ideal(0)", x.ideal(0), 1);
        Looks.due("0 goes OUT, for it comes no more", x.ideal(1), 3);
        Looks.due("ideal(3)", x.ideal(3), 0);
        Looks.due("0 goes OUT, for it comes no more", x.ideal(2), 3);
        Looks.due("ideal(1)", x.ideal(1), 3);
    }

    private static void hits() {
        Looks.at("HITS of a TRACE, were it gone through now");
        SkewedWays x = plain("r0 r4 r0", "r8 r8");
        Looks.due("hits", x.hits(0), 1);
        x.ask(0);
        Looks.due("0 is there", x.hits(0), 2);
        x.ask(4);
        Looks.due("all are there", x.hits(0), 3);
        Looks.due("misses, all SLOTS EMPTY ahead of it", x.misses(0, 0), 2);
        x.pin(0, true);
        x.pin(4, true);
        Looks.due("hits, PINNED ones as they are", x.hits(1), 0);
        Looks.due("misses, none is PINNED", x.misses(1, 0), 1);
        Looks.due("conflicts, none is PINNED", x.conflicts(1), 0);
        Looks.due("it is as told", x.run(1), 2);
        Looks.due("bypassed", x.is(10), 2);
        x.undo();
        x.undo();
        Looks.due("4 can go OUT", x.hits(1), 1);
        Looks.due("it is as told", x.run(1), 1);
    }

    private static void foretold() {
        Looks.at("A TRACE FORETOLD: MISSES by a DEPTH, all SLOTS EMPTY ahead of it (else as now)");
        SkewedWays x = parted("(r0+15*7)2", "(r0+15*8)2", "(r0+10*8)2", "(r0+2*4)2");
        int[][] misses = {{9, 9, 8, 7}, {12, 12, 11, 12}, {12, 13, 14, 14}, {5, 4, 4, 4}};
        int[] deepest = {3, 2, 0, 1};
        int[] recent = {7, 8, 8, 4};
        for (int now = 0; now <= 3; now++) {
            x.depth(now);
            for (int trace = 0; trace < 4; trace++) {
                for (int depth = 0; depth <= 3; depth++) {
                    String call = "misses(" + trace + ", " + depth + ")";
                    Looks.due(call, x.misses(trace, depth), misses[trace][depth]);
                }
                Looks.due("misses(" + trace + ", 4)", x.misses(trace, 4), -1);
                Looks.due("misses(" + trace + ", -1)", x.misses(trace, -1), -1);
                Looks.due("deepest(" + trace + ")", x.deepest(trace), deepest[trace]);
                Looks.due("conflicts(" + trace + ")", x.conflicts(trace), misses[trace][now] - recent[trace]);
                Looks.due("DEPTH is as it was", x.is(2), now);
            }
        }
        for (int line = 0; line < 16; line += 3) {
            x.write(line, line);
            x.pin(line, true);
        }
        Looks.due("all SLOTS EMPTY ahead of it", x.misses(0, 3), 7);
        Looks.due("all SLOTS EMPTY ahead of it", x.deepest(0), 3);
        Looks.due("MASKS as now", x.family(0), 2);
        Looks.due("MASKS as now", x.misses(3, 0), 4);
        Looks.due("deepest, of like ones the least", x.deepest(3), 0);
    }

    private static void suited() {
        Looks.at("The FAMILY (0, 1) by which a TRACE FORETOLD, DEPTH as now, has the fewest MISSES, of like ones 0");
        SkewedWays x = plain("(r0+1*9)2", "(r0+1*12)2", "(r0+1*13)2", "(r0+1*8)2");
        int[][] due = {{1, 0, 0, 0}, {0, 1, 0, 0}, {1, 1, 0, 0}, {0, 0, 0, 0}};
        for (int family = 2; family >= 0; family--) {
            x.family(family);
            int drawn = x.is(8);
            for (int depth = 0; depth <= 3; depth++) {
                x.depth(depth);
                for (int trace = 0; trace < 4; trace++) {
                    Looks.due("suited(" + trace + ") by DEPTH " + depth, x.suited(trace), due[trace][depth]);
                }
            }
            Looks.due("X is as it was", x.is(8), drawn);
        }
        Looks.due("MASKS are as they were", x.masked(1, 1), 2);
        x = plain("(r0 r4 r8)4");
        Looks.due("PLAIN ones meet", x.suited(0), 1);
        x.ask(0);
        x.pin(0, true);
        x.ask(8);
        x.pin(8, true);
        Looks.due("all SLOTS EMPTY ahead of it, by PLAIN ones, too", x.suited(0), 1);
        x.family(1);
        for (int line = 1; line < 16; line += 2) {
            x.ask(line);
            x.pin(line, true);
        }
        Looks.due("all SLOTS EMPTY ahead of it, by SKEWED ones, too", x.suited(0), 1);
        x.family(0);
        x.ask(0);
        x.ask(4);
        Looks.due("0 and 4 being there is nothing to it", x.suited(0), 1);
        SkewedWays y = plain("r1 r4");
        y.family(1);
        y.run(0);
        Looks.due("all being there by SKEWED ones is nothing to it", y.suited(0), 0);
        x.mask(0, 0, 0);
        x.mask(1, 1, 0);
        Looks.due("whatever MASKS are told", x.suited(0), 1);
        x.shape(1, 1);
        Looks.due("by WAYS and BITS as they are: 1 and 3 are alike for 0, 4 and 8", x.suited(0), 0);
        x.shape(2, 2);
        Looks.due("by WAYS and BITS as they are", x.suited(0), 1);
        x.shape(4, 4);
        Looks.due("by WAYS and BITS as they are", x.suited(0), 0);
    }

    private static void conflicts() {
        Looks.at("CONFLICTS: MISSES FORETOLD by DEPTH as it is, less RECENT with as many SLOTS as there are");
        SkewedWays x = plain("(r0+1*9)9", "(r0+1*10)9", "(r0+1*12)9", "(r0+4*3)4");
        Looks.due("fewer than RECENT: 33 less 81", x.conflicts(0), -48);
        Looks.due("58 less 90", x.conflicts(1), -32);
        Looks.due("108 less 108", x.conflicts(2), 0);
        Looks.due("12 less 3", x.conflicts(3), 9);
        Looks.due("conflicts(4)", x.conflicts(4), -10000);
        Looks.due("conflicts(-1)", x.conflicts(-1), -10000);
        x.shape(4, 4);
        Looks.due("64 SLOTS", x.conflicts(0), 0);
        x.shape(1, 1);
        // 0, 4, 8 in turn in SLOT 0, alone: the other one stays EMPTY. RECENT of 2 has 12, too.
        Looks.due("2 SLOTS", x.conflicts(3), 0);
    }

    private static void lineForetold() {
        Looks.at("FORETOLD, a LINE that is ASKED for now: which goes OUT; LINES that are MOVED");
        SkewedWays x = parted();
        Looks.due("all EMPTY", x.victim(0), -1);
        Looks.moved(x, 0);
        x.ask(0);
        x.ask(16);
        Looks.due("it is in a SLOT", x.victim(0), -1);
        Looks.moved(x, 0);
        Looks.due("the first of like ones", x.victim(32), 0);
        x.ask(0);
        Looks.due("the elder one", x.victim(32), 16);
        Looks.slot(x, 0, 0, 0, 0, 0, 0, 0);
        Looks.slot(x, 1, 0, 16, 12, 0, 2, 0);
        x.pin(16, true);
        Looks.due("the other one is PINNED", x.victim(32), 0);
        x.pin(0, true);
        Looks.due("it would be BYPASSED", x.victim(32), -1);
        Looks.moved(x, 32);
        Looks.due("candidate(32, -1)", x.candidate(32, -1), 0);
        Looks.due("candidate(32, 0)", x.candidate(32, 0), -1);
        int[] bad = {-1, 1024, Integer.MIN_VALUE, Integer.MAX_VALUE};
        for (int line : bad) {
            Looks.due("victim", x.victim(line), -1);
            Looks.due("moved", x.moved(line, -1), -1);
            Looks.due("moved", x.moved(line, 0), -1);
            Looks.due("candidate", x.candidate(line, -1), -1);
            Looks.due("candidate", x.candidate(line, 0), -1);
            Looks.due("reach", x.reach(line, 0), -1);
        }
        int[] far = {-2, 3, 4, 15, 63, 64, 65, 1000, Integer.MIN_VALUE, Integer.MAX_VALUE};
        for (int i : far) {
            Looks.due("candidate(20, " + i + ")", x.candidate(20, i), -1);
            Looks.due("candidate(0, " + i + "), it is in a SLOT", x.candidate(0, i), -1);
            Looks.due("moved(20, " + i + ")", x.moved(20, i), -1);
            Looks.due("moved(0, " + i + "), it is in a SLOT", x.moved(0, i), -1);
        }
        Looks.due("reach(4, -1)", x.reach(4, -1), -1);
        Looks.due("reach(4, 4)", x.reach(4, 4), -1);
        Looks.due("moved(4, -2)", x.moved(4, -2), -1);
        Looks.due("candidate(4, -2)", x.candidate(4, -2), -1);
        Looks.due("about(1)", x.about(1), 10);
    }

    private static void movedAlone() {
        Looks.at("FORETOLD: each question by itself");
        SkewedWays x = parted();
        x.ask(4);
        x.ask(16);
        x.ask(9);
        x.depth(1);
        Looks.due("moved(0, -1)", x.moved(0, -1), 1);
        Looks.due("moved(1, -1): (1, 0) has 16, (0, 1) has 9, that moves to (1, 2)", x.moved(1, -1), 1);
        Looks.due("moved(1, 0)", x.moved(1, 0), 9);
        Looks.due("moved(0, 0)", x.moved(0, 0), 4);
        Looks.due("moved(2, -1): (0, 2) is EMPTY", x.moved(2, -1), 0);
        Looks.due("moved(0, 1)", x.moved(0, 1), -1);
        Looks.due("moved(16, -1)", x.moved(16, -1), 0);
        Looks.due("victim(0)", x.victim(0), -1);
        Looks.due("moved(9, 0)", x.moved(9, 0), -1);
        Looks.due("candidate(2, 0)", x.candidate(2, 0), 2);
        Looks.due("candidate(0, 2)", x.candidate(0, 2), 17);
        Looks.due("reach(1, 0)", x.reach(1, 0), 2);
        Looks.due("candidate(0, -1)", x.candidate(0, -1), 3);
    }

    /** What is foretold of a line comes true, in long runs by all depths. */
    private static void foretoldComesTrue() {
        Looks.at("what is FORETOLD of a LINE is what comes");
        for (int depth = 0; depth <= 3; depth++) {
            SkewedWays x = new SkewedWays();
            x.shape(2, 3);
            x.family(1);
            x.depth(depth);
            for (int i = 0; i < 45; i++) {
                int line = i * i % 31 + i % 3;
                boolean there = x.where(line) >= 0;
                int victim = x.victim(line);
                int moved = x.moved(line, -1);
                int candidates = x.candidate(line, -1);
                Looks.due("reach", x.reach(line, depth), candidates);
                Looks.due("0: it is in a SLOT", candidates == 0, there);
                x.ask(line);
                if (!there) {
                    Looks.lastBooked(x, line, victim, moved, 0);
                }
            }
        }
    }

    private static void ratios() {
        Looks.at("HITS divided by HITS and MISSES as doubles: its bits. 0 without any");
        SkewedWays x = plain("(r0)9", "(r0 r1)9 (r0 r4 r8)9");
        Looks.due("ratio without any", x.ratio(), 0);
        x.ask(0);
        Looks.due("ratio of no HITS", x.ratio(), 0);
        x.ask(0);
        Looks.due("ratio of 1 and 1", x.ratio(), 0x3fe0000000000000L);
        x.ask(1);
        Looks.due("ratio of 1 and 2", x.ratio(), Double.doubleToRawLongBits(1.0 / 3.0));
        for (int i = 0; i < 60; i++) {
            x.run(i % 7 == 0 ? 1 : 0);
            double hits = x.is(3);
            Looks.due("ratio", x.ratio(), Double.doubleToRawLongBits(hits / (hits + x.is(4))));
        }
        x = plain("r0+4*99 r0+4*99 r0+4*99 r0+4*99 r0+4*99 r0+4*99");
        x.ask(1);
        x.ask(1);
        for (int i = 0; i < 100; i++) {
            x.run(0);
            double hits = x.is(3);
            Looks.due("ratio of few HITS", x.ratio(), Double.doubleToRawLongBits(hits / (hits + x.is(4))));
        }
        Looks.due("one HIT of 59402", x.is(3) + x.is(4), 59402);
        x.back();
        Looks.due("ratio without any", x.ratio(), 0);
    }

    public static void main(String[] args) {
        noTrace();
        emptyTrace();
        longest();
        working();
        hottest();
        distances();
        recent();
        ideal();
        idealAnew();
        hits();
        foretold();
        suited();
        conflicts();
        lineForetold();
        movedAlone();
        foretoldComesTrue();
        ratios();
        Looks.close();
    }
}
