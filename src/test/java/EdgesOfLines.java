import java.util.function.Consumer;

/** Part I of the document, sentence by sentence: lines, masks, candidates, what is counted, steps taken back. */
public final class EdgesOfLines {
    private static void memory() {
        Looks.at("LINES 0 .. 1023, at first LINE * 7 mod 100");
        for (int from = 0; from < 1024; from += 256) {
            SkewedWays x = new SkewedWays();
            for (int line = from; line < from + 256; line++) {
                Looks.due("memory(" + line + ")", x.memory(line), line * 7 % 100);
            }
        }
        SkewedWays x = new SkewedWays();
        Looks.due("memory(14), the last one ahead of mod", x.memory(14), 98);
        Looks.due("memory(15), the first one behind it", x.memory(15), 5);
        Looks.due("memory(100)", x.memory(100), 0);
        Looks.due("memory(1023)", x.memory(1023), 61);
        Looks.due("ask(0)", x.ask(0), 0);
        Looks.due("ask(1023)", x.ask(1023), 61);
        Looks.due("ask(-1)", x.ask(-1), -10000);
        Looks.due("ask(1024)", x.ask(1024), -10000);
        Looks.due("misses", x.is(4), 2);
        Looks.due("about(1)", x.about(1), 2);
    }

    private static void values() {
        Looks.at("VALUE -9999 .. 9999");
        SkewedWays x = new SkewedWays();
        Looks.due("write(1, -9999)", x.write(1, -9999), false);
        Looks.due("value(1)", x.value(1), -9999);
        Looks.due("write(1, 9999)", x.write(1, 9999), true);
        Looks.due("value(1)", x.value(1), 9999);
        Looks.due("write(1, 10000)", x.write(1, 10000), false);
        Looks.due("write(1, -10000)", x.write(1, -10000), false);
        Looks.due("value(1)", x.value(1), 9999);
        Looks.due("hits, of the one that was taken", x.is(3), 1);
        Looks.due("memory(1)", x.memory(1), 7);
        Looks.due("empty()", x.empty(), 1);
        Looks.due("memory(1)", x.memory(1), 9999);
        Looks.due("write(1, -9999)", x.write(1, -9999), false);
        Looks.due("leave(1)", x.leave(1), -9999);
        Looks.due("memory(1)", x.memory(1), -9999);
        Looks.due("ask(1)", x.ask(1), -9999);
        Looks.due("write(1, 0)", x.write(1, 0), true);
        Looks.due("clean(1)", x.clean(1), 0);
    }

    private static void shapes() {
        Looks.at("WAYS 1 .. 4, BITS 1 .. 4, at first 2 and 2");
        SkewedWays x = new SkewedWays();
        Looks.due("is(0)", x.is(0), 2);
        Looks.due("is(1)", x.is(1), 2);
        for (int ways = 1; ways <= 4; ways++) {
            for (int bits = 1; bits <= 4; bits++) {
                shaped(ways, bits);
            }
        }
        int[][] bad = {{0, 1}, {1, 0}, {5, 4}, {4, 5}, {0, 0}, {5, 5}, {-1, 2}, {2, -1}};
        for (int[] b : bad) {
            Looks.due("shape(" + b[0] + ", " + b[1] + ")", x.shape(b[0], b[1]), -1);
            Looks.due("is(0)", x.is(0), 2);
            Looks.due("is(1)", x.is(1), 2);
            Looks.due("about(1)", x.about(1), 0);
        }
    }

    /** "SLOTS 0 .. 2^BITS less 1", "for each WAY and bit 0 .. BITS less 1", PLAIN in all WAYS. */
    private static void shaped(int ways, int bits) {
        SkewedWays x = new SkewedWays();
        Looks.due("shape(" + ways + ", " + bits + ")", x.shape(ways, bits), ways << bits);
        Looks.due("is(0)", x.is(0), ways);
        Looks.due("is(1)", x.is(1), bits);
        Looks.due("is(9)", x.is(9), ways << bits);
        for (int way = 0; way < ways; way++) {
            for (int bit = 0; bit < bits; bit++) {
                Looks.due("masked", x.masked(way, bit), 1 << bit);
            }
            Looks.due("masked of bit BITS", x.masked(way, bits), -1);
            for (int slot = 0; slot < 1 << bits; slot++) {
                Looks.slot(x, way, slot, -1, 0, 0, 0, 0);
            }
            Looks.slot(x, way, 1 << bits, -10000, -10000, -10000, -10000, -10000);
            Looks.due("index of the last slot", x.index(1023, way), (1 << bits) - 1);
        }
        Looks.due("masked of way WAYS", x.masked(ways, 0), -1);
        Looks.due("index of way WAYS", x.index(0, ways), -1);
        Looks.due("slot of way WAYS", x.slot(ways, 0, 0), -10000);
        Looks.due("rank of way WAYS", x.rank(ways, ways), -1);
    }

    private static void indexes() {
        Looks.at("1, if LINE and MASK have an odd number of bits in common, else 0");
        SkewedWays x = new SkewedWays();
        x.shape(1, 1);
        for (int bits = 0; bits <= 10; bits++) {
            Looks.due("mask", x.mask(0, 0, (1 << bits) - 1), bits == 0 ? 0 : 1);
            Looks.due("index of " + bits + " in common", x.index(1023, 0), bits % 2);
            Looks.due("index of none in common", x.index(1024 - (1 << bits), 0), 0);
        }
        Looks.due("mask", x.mask(0, 0, 512), 1);
        Looks.due("the highest bit", x.index(512, 0), 1);
        Looks.due("all but the highest bit", x.index(511, 0), 0);
        x = new SkewedWays();
        x.shape(1, 4);
        for (int bit = 0; bit < 4; bit++) {
            Looks.due("mask", x.mask(0, bit, 1 << 9 - bit), 4);
        }
        for (int bit = 0; bit < 4; bit++) {
            Looks.due("each bit of the index", x.index(1 << 9 - bit, 0), 1 << bit);
        }
        Looks.due("all bits of the index", x.index(1023, 0), 15);
        Looks.due("none of them", x.index(63, 0), 0);
    }

    private static void skewed(int ways, int bits, int... masks) {
        SkewedWays x = new SkewedWays();
        x.shape(ways, bits);
        x.family(1);
        for (int i = 0; i < masks.length; i++) {
            String call = "masked(" + i / bits + ", " + i % bits + ") of " + ways + " and " + bits;
            Looks.due(call, x.masked(i / bits, i % bits), masks[i]);
        }
        Looks.due("X is as it was", x.is(8), 431);
    }

    private static void families() {
        Looks.at("SKEWED: 2^j and 2^(BITS + (j + w) mod BITS) together");
        skewed(1, 1, 1 + 2);
        skewed(4, 1, 3, 3, 3, 3);
        skewed(4, 2, 1 + 4, 2 + 8, 1 + 8, 2 + 4, 1 + 4, 2 + 8, 1 + 8, 2 + 4);
        skewed(4, 3, 9, 18, 36, 17, 34, 4 + 8, 33, 2 + 8, 4 + 16, 9, 18, 36);
        skewed(4, 4, 17, 34, 68, 136, 33, 66, 132, 24, 65, 130, 20, 40, 129, 18, 36, 72);
        Looks.at("DRAWN: X is (X * 853 + 461) mod 30047, MASK is X mod 1024, X at first 431");
        SkewedWays x = new SkewedWays();
        Looks.due("X at first", x.is(8), 431);
        x.shape(4, 4);
        x.family(2);
        int drawn = drawn(x, 4, 4, 431);
        x.family(2);
        drawn = drawn(x, 4, 4, drawn);
        x.family(0);
        x.shape(2, 3);
        Looks.due("PLAIN draws nothing", x.is(8), drawn);
        x.family(2);
        drawn(x, 2, 3, drawn);
        Looks.due("tell(30046)", x.tell(30046), true);
        x.family(2);
        drawn(x, 2, 3, 30046);
        // (30046 * 853 + 461) mod 30047 is 461 less 853 and 30047 more, that is 29655: 983 and 28 * 1024.
        Looks.due("MASK by X 30046", x.masked(0, 0), 983);
        Looks.due("tell(0)", x.tell(0), true);
        x.family(2);
        Looks.due("MASK by X 0", x.masked(0, 0), 461);
        Looks.due("tell, the next X being 0", x.tell(lastAhead(0)), true);
        x.family(2);
        Looks.due("MASK by X", x.masked(0, 0), 0);
        Looks.due("tell, the next X being 1023", x.tell(lastAhead(1023)), true);
        x.family(2);
        Looks.due("MASK by X", x.masked(0, 0), 1023);
        Looks.due("tell, the next X being 1024", x.tell(lastAhead(1024)), true);
        x.family(2);
        Looks.due("MASK by X", x.masked(0, 0), 0);
        Looks.due("tell, the next X being 30046", x.tell(lastAhead(30046)), true);
        x.family(2);
        Looks.due("MASK by X", x.masked(0, 0), 30046 - 29 * 1024);
    }

    private static int drawn(SkewedWays x, int ways, int bits, int from) {
        int drawn = from;
        for (int i = 0; i < ways * bits; i++) {
            drawn = (drawn * 853 + 461) % 30047;
            Looks.due("masked, drawn", x.masked(i / bits, i % bits), drawn % 1024);
        }
        Looks.due("X behind it", x.is(8), drawn);
        return drawn;
    }

    /** The X by which the next one is so. */
    private static int lastAhead(int next) {
        for (int x = 0; x < 30047; x++) {
            if ((x * 853 + 461) % 30047 == next) {
                return x;
            }
        }
        return -1;
    }

    private static void ages() {
        Looks.at("AGE 0 .. 3");
        SkewedWays x = new SkewedWays();
        Looks.due("aged of none", x.aged(0), 0);
        x.ask(0);
        Looks.slot(x, 0, 0, 0, 0, 0, 2, 0);
        Looks.due("cool, to 3", x.cool(), 1);
        Looks.slot(x, 0, 0, 0, 0, 0, 3, 0);
        Looks.due("cool, below 3 no more", x.cool(), 0);
        Looks.slot(x, 0, 0, 0, 0, 0, 3, 0);
        Looks.due("a HIT", x.ask(0), 0);
        Looks.slot(x, 0, 0, 0, 0, 0, 0, 0);
        Looks.due("a HIT at 0", x.ask(0), 0);
        Looks.slot(x, 0, 0, 0, 0, 0, 0, 0);
        for (int age = 1; age <= 3; age++) {
            Looks.due("cool", x.cool(), 1);
            Looks.due("aged", x.aged(age), 1);
            Looks.due("aged", x.aged(age - 1), 0);
        }
        Looks.due("cool", x.cool(), 0);
        Looks.due("cool is a STEP, too, if none was", x.about(1), 9);
    }

    private static void hits() {
        Looks.at("is it in a SLOT, that is a HIT: its AGE is 0");
        SkewedWays x = new SkewedWays();
        x.write(0, 50);
        x.ask(4);
        Looks.due("ask", x.ask(0), 50);
        Looks.slot(x, 0, 0, 0, 50, 1, 0, 0);
        Looks.slot(x, 1, 0, 4, 28, 0, 2, 0);
        Looks.due("write", x.write(0, 51), true);
        Looks.due("hits", x.is(3), 2);
        Looks.due("misses", x.is(4), 2);
        Looks.due("the BOOK has MISSES alone", x.book(-1, 0), 2);
        x.pin(4, true);
        Looks.due("a PINNED one", x.ask(4), 28);
        Looks.slot(x, 1, 0, 4, 28, 0, 0, 1);
        Looks.due("hits", x.is(3), 3);
        Looks.due("out", x.is(5), 0);
    }

    private static void book() {
        Looks.at("BOOK (the latest 24)");
        SkewedWays x = new SkewedWays();
        for (int n = 1; n <= 75; n++) {
            x.ask(n);
            int lines = Math.min(n, 24);
            Looks.due("book(-1, 0)", x.book(-1, 0), lines);
            Looks.due("the eldest", x.book(0, 0), n - lines + 1);
            Looks.due("the latest", x.book(lines - 1, 0), n);
            Looks.due("none", x.book(lines, 0), -2);
        }
        for (int i = 0; i < 24; i++) {
            Looks.due("book(" + i + ", 0)", x.book(i, 0), 52 + i);
            Looks.due("book(" + i + ", 1)", x.book(i, 1), 44 + i);
        }
        int[] far = {-2, 24, 25, 47, 48, 72, 96, 1000, Integer.MIN_VALUE, Integer.MAX_VALUE};
        for (int i : far) {
            Looks.due("book(" + i + ", 0)", x.book(i, 0), -2);
        }
        Looks.due("book(23, 4)", x.book(23, 4), -2);
        Looks.due("book(23, -1)", x.book(23, -1), -2);
        Looks.due("undo", x.undo(), 19);
        Looks.due("book(23, 0) behind it", x.book(23, 0), 74);
        Looks.due("book(0, 0) behind it", x.book(0, 0), 51);
        x = new SkewedWays();
        Looks.told(x, "r0+1*25");
        Looks.due("run", x.run(0), 25);
        Looks.due("book(-1, 0)", x.book(-1, 0), 24);
        Looks.due("book(0, 0)", x.book(0, 0), 1);
    }

    private static void levelNought() {
        Looks.at("of level 0 the SLOT of its INDEX in each WAY, by WAYS");
        SkewedWays x = new SkewedWays();
        Looks.candidates(x, 7, 3, 19);
        x.shape(4, 4);
        Looks.candidates(x, 1023, 15, 31, 47, 63);
        Looks.candidates(x, 16, 0, 16, 32, 48);
        x.shape(1, 1);
        Looks.candidates(x, 6, 0);
        Looks.due("reach by depth 3, one WAY", x.reach(6, 3), 1);
        x.ask(8);
        Looks.due("reach by depth 3, one WAY, a LINE there", x.reach(6, 3), 1);
    }

    /** 4 in (0, 0), 16 in (1, 0), 9 in (0, 1), 5 in (1, 1); 0 is of (0, 0) and (1, 0), and (1, 2) is three moves off. */
    private static SkewedWays row(int depth) {
        SkewedWays x = new SkewedWays();
        Looks.partWays(x, 2, 2);
        x.ask(4);
        x.ask(16);
        x.write(9, 90);
        x.write(5, 50);
        Looks.due("depth", x.depth(depth), true);
        return x;
    }

    private static void levels() {
        Looks.at("of level k and 1 (DEPTH at most)");
        SkewedWays x = row(0);
        for (int depth = 0; depth <= 3; depth++) {
            Looks.due("reach(0, " + depth + ")", x.reach(0, depth), 2 + depth);
        }
        Looks.candidates(x, 0, 0, 16);
        x.depth(1);
        Looks.candidates(x, 0, 0, 16, 17);
        x.depth(2);
        Looks.candidates(x, 0, 0, 16, 17, 1);
        x.depth(3);
        Looks.candidates(x, 0, 0, 16, 17, 1, 18);
        Looks.at("if it is no CANDIDATE yet");
        // 0 and 16 are of (0, 0) and (1, 0) both, as 32 is: they lead to each other's SLOT alone.
        x = new SkewedWays();
        Looks.partWays(x, 2, 2);
        x.ask(0);
        x.ask(16);
        Looks.due("reach", x.reach(32, 3), 2);
        x = new SkewedWays();
        x.ask(0);
        x.ask(4);
        Looks.due("reach, all by like MASKS", x.reach(8, 3), 2);
        Looks.at("that has a LINE");
        x = new SkewedWays();
        Looks.partWays(x, 2, 2);
        Looks.due("reach of EMPTY ones", x.reach(0, 3), 2);
        x.ask(4);
        Looks.due("reach of one with a LINE", x.reach(0, 3), 3);
        Looks.due("reach of one with a LINE", x.reach(0, 0), 2);
    }

    /** Three ways: the order of each level is that of the candidates ahead, and by WAYS. */
    private static void orderOfLevels() {
        Looks.at("for each CANDIDATE of level k, in order, ... each other WAY, by WAYS");
        SkewedWays x = new SkewedWays();
        Looks.partWays(x, 3, 2);
        // A line is a and 4 b and 16 c and 64 k: of (0, a), (1, b), (2, c).
        x.ask(36);
        x.ask(61);
        x.ask(49);
        x.ask(64);
        Looks.due("36", x.where(36), 0);
        Looks.due("61", x.where(61), 0);
        Looks.due("49", x.where(49), 1);
        Looks.due("64", x.where(64), 2);
        Looks.due("reach", x.reach(0, 0), 3);
        Looks.due("reach", x.reach(0, 1), 7);
        Looks.due("reach", x.reach(0, 2), 8);
        Looks.due("reach", x.reach(0, 3), 8);
        x.depth(2);
        Looks.candidates(x, 0, 0, 16, 32, 17, 34, 1, 35, 19);
        Looks.moved(x, 0, 36);
        x.depth(0);
        Looks.candidates(x, 0, 0, 16, 32);
        Looks.due("victim", x.victim(0), 36);
    }

    private static SkewedWays pinnedRow(int line) {
        SkewedWays x = row(3);
        Looks.due("pin", x.pin(line, true), true);
        return x;
    }

    private static void pinnedOnes() {
        Looks.at("a SLOT whose LINE is PINNED is none, on all levels");
        Looks.candidates(pinnedRow(4), 0, 16);
        Looks.candidates(pinnedRow(16), 0, 0, 17, 1, 18);
        Looks.candidates(pinnedRow(5), 0, 0, 16);
        Looks.candidates(pinnedRow(9), 0, 0, 16, 17);
        SkewedWays x = row(3);
        x.ask(14);
        x.ask(10);
        Looks.due("10", x.where(10), 1);
        Looks.candidates(x, 0, 0, 16, 17, 1, 18);
        x.pin(10, true);
        Looks.candidates(x, 0, 0, 16, 17, 1);
        x.pin(10, false);
        Looks.candidates(x, 0, 0, 16, 17, 1, 18);
    }

    private static void bypassed() {
        Looks.at("Without CANDIDATES it is BYPASSED");
        SkewedWays x = new SkewedWays();
        x.ask(0);
        x.pin(0, true);
        x.ask(4);
        Looks.due("bypassed, one of two being PINNED", x.is(10), 0);
        x.pin(4, true);
        Looks.due("ask", x.ask(8), 56);
        Looks.due("bypassed", x.is(10), 1);
        Looks.due("misses", x.is(4), 3);
        Looks.due("out", x.is(5), 0);
        Looks.due("where", x.where(8), -1);
        Looks.lastBooked(x, 8, -1, 0, 1);
        Looks.slot(x, 0, 0, 0, 0, 0, 2, 1);
        Looks.slot(x, 1, 0, 4, 28, 0, 2, 1);
        Looks.due("ask, it is a MISS again", x.ask(8), 56);
        Looks.due("hits", x.is(3), 0);
        Looks.due("bypassed", x.is(10), 2);
        Looks.due("write", x.write(8, 9999), false);
        Looks.due("MEMORY has it", x.memory(8), 9999);
        Looks.due("value", x.value(8), 9999);
        Looks.due("it is no BACK", x.is(6), 0);
        Looks.due("stale", x.stale(), 0);
        Looks.due("bypassed", x.is(10), 3);
        Looks.due("write", x.write(8, -9999), false);
        Looks.due("ask", x.ask(8), -9999);
        Looks.lastBooked(x, 8, -1, 0, 1);
        Looks.due("another SLOT has room", x.ask(1), 7);
        Looks.due("where", x.where(1), 0);
        Looks.due("bypassed", x.is(10), 5);
        Looks.due("write of a PINNED one", x.write(0, 5), true);
        Looks.slot(x, 0, 0, 0, 5, 1, 0, 1);
    }

    private static void firstEmpty() {
        Looks.at("the first EMPTY CANDIDATE is taken");
        SkewedWays x = new SkewedWays();
        x.ask(0);
        x.cool();
        Looks.due("victim, the other SLOT being EMPTY", x.victim(4), -1);
        x.ask(4);
        Looks.due("0 stays, old as it is", x.where(0), 0);
        Looks.slot(x, 0, 0, 0, 0, 0, 3, 0);
        Looks.slot(x, 1, 0, 4, 28, 0, 2, 0);
        x.leave(0);
        x.leave(4);
        Looks.due("ask", x.ask(8), 56);
        Looks.due("the first one of two", x.where(8), 0);
        x = row(1);
        x.cool();
        // (1, 1) has 5, of age 3 as all: (0, 0) is the first one; without 5, (1, 1) is EMPTY.
        Looks.due("victim", x.victim(0), 4);
        x.leave(5);
        Looks.due("victim", x.victim(0), -1);
        Looks.moved(x, 0, 4);
        x.ask(0);
        Looks.slot(x, 0, 0, 0, 0, 0, 2, 0);
        Looks.slot(x, 1, 1, 4, 28, 0, 3, 0);
        Looks.due("none went OUT", x.is(5), 0);
        Looks.lastBooked(x, 0, -1, 1, 0);
    }

    private static void growingOlder() {
        Looks.at("as long as none has AGE 3, all CANDIDATES are one older, then the first one of AGE 3 is taken");
        SkewedWays x = new SkewedWays();
        x.ask(0);
        x.ask(4);
        x.ask(1);
        x.ask(0);
        x.ask(4);
        Looks.due("ask, three older", x.ask(8), 56);
        Looks.slot(x, 0, 0, 8, 56, 0, 2, 0);
        Looks.slot(x, 1, 0, 4, 28, 0, 3, 0);
        Looks.slot(x, 0, 1, 1, 7, 0, 2, 0);
        Looks.due("ask, none older", x.ask(12), 84);
        Looks.slot(x, 0, 0, 8, 56, 0, 2, 0);
        Looks.slot(x, 1, 0, 12, 84, 0, 2, 0);
        Looks.due("ask, one older, the first of two", x.ask(16), 12);
        Looks.slot(x, 0, 0, 16, 12, 0, 2, 0);
        Looks.slot(x, 1, 0, 12, 84, 0, 3, 0);
        Looks.due("out", x.is(5), 3);
        x.ask(12);
        Looks.due("ask, one older, the second has 0", x.ask(20), 40);
        Looks.slot(x, 0, 0, 20, 40, 0, 2, 0);
        Looks.slot(x, 1, 0, 12, 84, 0, 1, 0);
        Looks.at("its LINE goes OUT (is it DIRTY, MEMORY has its VALUE: BACK)");
        Looks.due("back", x.is(6), 0);
        x.write(20, -1);
        x.write(12, -2);
        x.cool();
        Looks.due("victim", x.victim(24), 20);
        Looks.due("ask", x.ask(24), 68);
        Looks.due("memory(20)", x.memory(20), -1);
        Looks.due("memory(12)", x.memory(12), 84);
        Looks.due("back", x.is(6), 1);
        Looks.due("out", x.is(5), 5);
        Looks.lastBooked(x, 24, 20, 0, 0);
    }

    private static void threeMovesToEmpty() {
        Looks.at("the LINE of the CANDIDATE it was found from is MOVED into it, and so on");
        SkewedWays x = row(3);
        x.ask(5);
        x.cool();
        x.ask(4);
        Looks.due("victim", x.victim(0), -1);
        Looks.moved(x, 0, 9, 5, 4);
        Looks.due("ask", x.ask(0), 0);
        Looks.slot(x, 0, 0, 0, 0, 0, 2, 0);
        Looks.slot(x, 1, 0, 16, 12, 0, 3, 0);
        Looks.slot(x, 1, 1, 4, 28, 0, 0, 0);
        Looks.slot(x, 0, 1, 5, 50, 1, 1, 0);
        Looks.slot(x, 1, 2, 9, 90, 1, 3, 0);
        Looks.due("moves", x.is(7), 3);
        Looks.due("out", x.is(5), 0);
        Looks.due("back", x.is(6), 0);
        Looks.lastBooked(x, 0, -1, 3, 0);
        x = row(2);
        Looks.due("victim by depth 2", x.victim(0), 4);
        Looks.moved(x, 0);
    }

    /** Each of the six by itself, all being unlike. */
    private static void counted() {
        Looks.at("COUNTED: HITS, MISSES, OUT, BACK, MOVES, BYPASSED (at first 0)");
        SkewedWays x = new SkewedWays();
        counts(x, 0, 0, 0, 0, 0, 0);
        Looks.partWays(x, 2, 2);
        counts(x, 0, 0, 0, 0, 0, 0);
        x.ask(4);
        x.ask(16);
        x.write(9, 90);
        x.write(5, 50);
        counts(x, 0, 4, 0, 0, 0, 0);
        x.depth(3);
        x.ask(0);
        counts(x, 0, 5, 0, 0, 3, 0);
        x.pin(0, true);
        x.pin(16, true);
        x.ask(32);
        x.write(32, 1);
        counts(x, 0, 7, 0, 0, 3, 2);
        for (int i = 0; i < 11; i++) {
            x.ask(9);
        }
        counts(x, 11, 7, 0, 0, 3, 2);
        x.clean(9);
        counts(x, 11, 7, 0, 1, 3, 2);
        x.depth(0);
        x.cool();
        x.cool();
        x.cool();
        x.cool();
        Looks.due("victim, of (0, 1) and (1, 1)", x.victim(21), 5);
        x.ask(21);
        counts(x, 11, 8, 1, 2, 3, 2);
        x.empty();
        counts(x, 11, 8, 1, 2, 3, 2);
        x.shape(1, 1);
        x.family(2);
        counts(x, 11, 8, 1, 2, 3, 2);
    }

    private static void counts(SkewedWays x, int hits, int misses, int out, int back, int moves, int bypassed) {
        Looks.due("HITS", x.is(3), hits);
        Looks.due("MISSES", x.is(4), misses);
        Looks.due("OUT", x.is(5), out);
        Looks.due("BACK", x.is(6), back);
        Looks.due("MOVES", x.is(7), moves);
        Looks.due("BYPASSED", x.is(10), bypassed);
    }

    /** The one that comes is not DIRTY, though a DIRTY one was in its SLOT, and moved on. */
    private static void dirtyMoves() {
        SkewedWays x = row(1);
        x.write(4, 44);
        x.pin(9, true);
        x.leave(5);
        Looks.due("moved, asked for alone", x.moved(0, -1), 1);
        x.ask(0);
        Looks.slot(x, 0, 0, 0, 0, 0, 2, 0);
        Looks.slot(x, 1, 1, 4, 44, 1, 0, 0);
        Looks.slot(x, 0, 1, 9, 90, 1, 2, 1);
        Looks.due("memory(4)", x.memory(4), 28);
        Looks.due("clean", x.clean(0), -10000);
        Looks.due("stale", x.stale(), 2);
    }

    private static void stales() {
        Looks.at("How many LINES have another VALUE in their SLOT than in MEMORY");
        SkewedWays x = new SkewedWays();
        x.shape(4, 4);
        for (int i = 0; i < 64; i++) {
            x.write(i, -1);
            Looks.due("stale", x.stale(), i + 1);
        }
        Looks.due("clean", x.clean(0), -1);
        Looks.due("stale", x.stale(), 63);
        Looks.due("write, as MEMORY has it", x.write(63, 63 * 7 % 100), true);
        Looks.due("stale", x.stale(), 62);
        Looks.due("leave", x.leave(1), -1);
        Looks.due("stale", x.stale(), 61);
        x = new SkewedWays();
        x.write(0, 1);
        Looks.due("stale, the first SLOT", x.stale(), 1);
        x.write(7, 1);
        Looks.due("where", x.where(7), 0);
        x.write(3, 1);
        Looks.due("where", x.where(3), 1);
        Looks.due("stale, the last SLOT", x.stale(), 3);
        Looks.due("empty", x.empty(), 3);
        Looks.due("stale", x.stale(), 0);
    }

    private static void threeMovesOut() {
        SkewedWays x = row(3);
        x.ask(14);
        x.write(10, 100);
        x.ask(4);
        x.ask(16);
        x.ask(9);
        x.ask(5);
        Looks.due("victim", x.victim(0), 10);
        Looks.moved(x, 0, 9, 5, 4);
        Looks.due("write", x.write(0, 1), false);
        Looks.slot(x, 0, 0, 0, 1, 1, 2, 0);
        Looks.slot(x, 1, 0, 16, 12, 0, 1, 0);
        Looks.slot(x, 1, 1, 4, 28, 0, 1, 0);
        Looks.slot(x, 0, 1, 5, 50, 1, 1, 0);
        Looks.slot(x, 1, 2, 9, 90, 1, 1, 0);
        Looks.slot(x, 0, 2, 14, 98, 0, 2, 0);
        Looks.due("where(10)", x.where(10), -1);
        Looks.due("memory(10)", x.memory(10), 100);
        Looks.due("back", x.is(6), 1);
        Looks.due("out", x.is(5), 1);
        Looks.due("moves", x.is(7), 3);
        Looks.lastBooked(x, 0, 10, 3, 0);
    }

    private static void written() {
        Looks.at("WRITTEN: ASKED for, then VALUE is that, DIRTY");
        SkewedWays x = new SkewedWays();
        Looks.due("write, the VALUE it has", x.write(3, 21), false);
        Looks.slot(x, 0, 3, 3, 21, 1, 2, 0);
        Looks.due("stale", x.stale(), 0);
        Looks.due("clean", x.clean(3), 21);
        Looks.due("back", x.is(6), 1);
        Looks.due("write", x.write(3, -1), true);
        Looks.slot(x, 0, 3, 3, -1, 1, 0, 0);
        Looks.due("stale", x.stale(), 1);
        Looks.due("memory", x.memory(3), 21);
    }

    private static void cleanedAndLeft() {
        Looks.at("CLEANED, a DIRTY LINE");
        SkewedWays x = new SkewedWays();
        x.write(3, 1);
        x.cool();
        x.pin(3, true);
        Looks.due("clean", x.clean(3), 1);
        Looks.slot(x, 0, 3, 3, 1, 0, 3, 1);
        Looks.due("memory", x.memory(3), 1);
        Looks.due("back", x.is(6), 1);
        Looks.due("clean, not DIRTY any more", x.clean(3), -10000);
        Looks.due("back", x.is(6), 1);
        Looks.due("about(1)", x.about(1), 4);
        Looks.at("LEFT, a LINE in a SLOT (PINNED or not)");
        Looks.due("leave a PINNED one", x.leave(3), 1);
        Looks.due("back, not DIRTY", x.is(6), 1);
        Looks.slot(x, 0, 3, -1, 0, 0, 0, 0);
        Looks.due("pins", x.is(11), 0);
        Looks.due("leave again", x.leave(3), -10000);
        Looks.due("about(1)", x.about(1), 5);
        x.write(3, 2);
        x.pin(3, true);
        Looks.due("leave a DIRTY one", x.leave(3), 2);
        Looks.due("memory", x.memory(3), 2);
        Looks.due("back", x.is(6), 2);
        Looks.due("out", x.is(5), 0);
        Looks.due("ask", x.ask(3), 2);
        Looks.slot(x, 0, 3, 3, 2, 0, 2, 0);
        Looks.due("the BOOK has MISSES alone", x.book(-1, 0), 3);
    }

    private static void cooled() {
        Looks.at("COOLED: each LINE in a SLOT whose AGE is below 3 is one older");
        SkewedWays x = new SkewedWays();
        Looks.due("cool, all EMPTY", x.cool(), 0);
        for (int line = 0; line < 8; line++) {
            x.ask(line);
        }
        x.ask(0);
        x.pin(1, true);
        Looks.due("cool", x.cool(), 8);
        Looks.due("aged(1)", x.aged(1), 1);
        Looks.due("aged(3)", x.aged(3), 7);
        Looks.due("a PINNED one, too", x.slot(0, 1, 3), 3);
        Looks.due("cool", x.cool(), 1);
        Looks.due("cool", x.cool(), 1);
        Looks.due("cool", x.cool(), 0);
        Looks.due("aged(3)", x.aged(3), 8);
        x.leave(2);
        Looks.due("aged(3)", x.aged(3), 7);
        Looks.due("an EMPTY one has AGE 0", x.slot(0, 2, 3), 0);
        Looks.due("but isn't counted", x.aged(0), 0);
    }

    private static void traded() {
        Looks.at("TRADED, two unlike WAYS");
        SkewedWays x = new SkewedWays();
        Looks.partWays(x, 4, 2);
        x.write(0, 5);
        x.ask(256);
        x.pin(256, true);
        Looks.due("where", x.where(256), 1);
        Looks.due("trade(1, 3)", x.trade(1, 3), true);
        Looks.due("where", x.where(256), 3);
        Looks.slot(x, 3, 0, 256, 92, 0, 2, 1);
        Looks.slot(x, 1, 0, -1, 0, 0, 0, 0);
        Looks.due("masked", x.masked(1, 0), 64);
        Looks.due("masked", x.masked(3, 1), 8);
        Looks.due("trade(3, 0)", x.trade(3, 0), true);
        Looks.slot(x, 0, 0, 256, 92, 0, 2, 1);
        Looks.slot(x, 3, 0, 0, 5, 1, 2, 0);
        Looks.due("masked", x.masked(0, 1), 8);
        Looks.due("masked", x.masked(3, 1), 2);
        Looks.due("masked", x.masked(2, 0), 16);
        Looks.due("trade(3, 3)", x.trade(3, 3), false);
        Looks.due("trade(0, 4)", x.trade(0, 4), false);
        Looks.due("trade(4, 0)", x.trade(4, 0), false);
        Looks.due("hit behind it", x.write(0, 6), true);
        x.shape(1, 1);
        Looks.due("trade of one WAY", x.trade(0, 1), false);
        Looks.due("trade of one WAY", x.trade(0, 0), false);
    }

    private static SkewedWays dirtyAndPinned() {
        SkewedWays x = new SkewedWays();
        x.depth(2);
        x.write(1, 11);
        x.write(2, 22);
        x.ask(3);
        x.pin(2, true);
        x.pin(3, true);
        return x;
    }

    private static void emptied(String call, Consumer<SkewedWays> on) {
        SkewedWays x = dirtyAndPinned();
        on.accept(x);
        Looks.due("memory(1) by " + call, x.memory(1), 11);
        Looks.due("memory(2) by " + call, x.memory(2), 22);
        Looks.due("memory(3) by " + call, x.memory(3), 21);
        Looks.due("back by " + call, x.is(6), 2);
        Looks.due("out by " + call, x.is(5), 0);
        Looks.due("pins by " + call, x.is(11), 0);
        Looks.due("EMPTY ones by " + call, x.is(9), x.is(0) << x.is(1));
        Looks.due("DEPTH by " + call, x.is(2), 2);
        Looks.due("misses by " + call, x.is(4), 3);
        Looks.due("BOOK by " + call, x.book(-1, 0), 3);
        Looks.due("about(1) by " + call, x.about(1), 7);
        x.ask(2);
        Looks.due("pins, it is not PINNED when it comes again, by " + call, x.is(11), 0);
    }

    private static void emptying() {
        Looks.at("EMPTIED");
        emptied("empty", x -> Looks.due("empty()", x.empty(), 2));
        emptied("shape, the like one", x -> Looks.due("shape", x.shape(2, 2), 8));
        emptied("shape, the least", x -> Looks.due("shape", x.shape(1, 1), 2));
        emptied("shape, the greatest", x -> Looks.due("shape", x.shape(4, 4), 64));
        emptied("family 0, as it is", x -> Looks.due("family", x.family(0), 2));
        emptied("family 1", x -> Looks.due("family", x.family(1), 3));
        emptied("family 2", x -> Looks.due("family", x.family(2), 4));
        emptied("mask, as it is", x -> Looks.due("mask", x.mask(0, 0, 1), 2));
        SkewedWays x = new SkewedWays();
        Looks.due("empty, all EMPTY", x.empty(), 0);
        Looks.due("it is a STEP", x.about(1), 1);
        x.mask(1, 1, 1000);
        x.shape(2, 2);
        Looks.due("SHAPED as it is: PLAIN", x.masked(1, 1), 2);
        x.mask(1, 1, 1000);
        x.empty();
        Looks.due("EMPTIED: MASKS stay", x.masked(1, 1), 1000);
    }

    private static void masksTold() {
        Looks.at("A MASK (0 .. 1023)");
        SkewedWays x = new SkewedWays();
        Looks.due("mask(1, 1, 0)", x.mask(1, 1, 0), 1);
        Looks.due("masked", x.masked(1, 1), 0);
        Looks.due("mask(1, 1, 1023)", x.mask(1, 1, 1023), 2);
        Looks.due("masked", x.masked(1, 1), 1023);
        Looks.due("mask(1, 1, 1024)", x.mask(1, 1, 1024), -1);
        Looks.due("mask(1, 1, -1)", x.mask(1, 1, -1), -1);
        Looks.due("mask(1, 2, 5)", x.mask(1, 2, 5), -1);
        Looks.due("mask(2, 1, 5)", x.mask(2, 1, 5), -1);
        Looks.due("mask(1, -1, 5)", x.mask(1, -1, 5), -1);
        Looks.due("mask(-1, 1, 5)", x.mask(-1, 1, 5), -1);
        Looks.due("masked", x.masked(1, 1), 1023);
        Looks.due("the other WAY", x.masked(0, 1), 2);
        Looks.due("about(1)", x.about(1), 2);
        Looks.due("mask(1, 0, 1023), twice the same", x.mask(1, 0, 1023), 1);
        Looks.due("RANK of its WAY alone", x.mask(0, 0, 1023), 2);
    }

    private static void depths() {
        Looks.at("DEPTH 0 .. 3 (at first 0)");
        SkewedWays x = new SkewedWays();
        Looks.due("is(2)", x.is(2), 0);
        Looks.due("depth(-1)", x.depth(-1), false);
        Looks.due("depth(4)", x.depth(4), false);
        Looks.due("is(2)", x.is(2), 0);
        Looks.due("about(1)", x.about(1), 0);
        for (int depth = 3; depth >= 0; depth--) {
            Looks.due("depth(" + depth + ")", x.depth(depth), true);
            Looks.due("is(2)", x.is(2), depth);
        }
        Looks.due("depth(0), as it is", x.depth(0), true);
        Looks.due("about(1)", x.about(1), 5);
    }

    private static void noLineTwice() {
        Looks.at("No LINE is in two SLOTS; its INDEX in its WAY is that SLOT");
        for (int family = 0; family < 3; family++) {
            SkewedWays x = new SkewedWays();
            x.shape(3, 2);
            x.family(family);
            x.depth(3);
            for (int i = 0; i < 150; i++) {
                x.ask(i * i * 7 % 40);
            }
            boolean[] there = new boolean[1024];
            int lines = 0;
            for (int way = 0; way < 3; way++) {
                for (int slot = 0; slot < 4; slot++) {
                    int line = x.slot(way, slot, 0);
                    if (line >= 0) {
                        Looks.due("twice " + line, there[line], false);
                        Looks.due("index of " + line, x.index(line, way), slot);
                        Looks.due("where " + line, x.where(line), way);
                        there[line] = true;
                        lines++;
                    }
                }
            }
            Looks.due("EMPTY ones", x.is(9), 12 - lines);
        }
    }

    public static void main(String[] args) {
        memory();
        values();
        shapes();
        indexes();
        families();
        ages();
        hits();
        book();
        levelNought();
        levels();
        orderOfLevels();
        pinnedOnes();
        bypassed();
        firstEmpty();
        growingOlder();
        threeMovesToEmpty();
        threeMovesOut();
        counted();
        dirtyMoves();
        stales();
        written();
        cleanedAndLeft();
        cooled();
        traded();
        emptying();
        masksTold();
        depths();
        noLineTwice();
        Looks.close();
    }
}
