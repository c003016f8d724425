/** Part III of the document: what masks are worth, strides, THE SET and what of it fits, at the edges. */
public final class EdgesOfWorth {
    private static SkewedWays shaped(int ways, int bits) {
        SkewedWays x = new SkewedWays();
        Looks.due("shape", x.shape(ways, bits), ways << bits);
        return x;
    }

    /** All masks told, way by way, bit by bit. */
    private static SkewedWays masked(int ways, int bits, int... masks) {
        SkewedWays x = shaped(ways, bits);
        for (int i = 0; i < masks.length; i++) {
            x.mask(i / bits, i % bits, masks[i]);
        }
        return x;
    }

    private static void ranks() {
        Looks.at("RANK: of their MASKS the most of which no sum of one or more is 0");
        SkewedWays x = masked(2, 2, 0, 0, 0, 0);
        Looks.due("rank of 0 alone", x.rank(0, 0), 0);
        Looks.due("rank of 0 alone", x.rank(0, 1), 0);
        x = masked(2, 2, 7, 7, 7, 7);
        Looks.due("rank of like ones", x.rank(0, 0), 1);
        Looks.due("rank of like ones", x.rank(1, 0), 1);
        x = masked(2, 2, 3, 5, 6, 9);
        Looks.due("3, 5", x.rank(0, 0), 2);
        Looks.due("6, 9", x.rank(1, 1), 2);
        Looks.due("3, 5 and 6 sum up to 0", x.rank(0, 1), 3);
        x = masked(2, 2, 3, 12, 48, 63);
        Looks.due("four sum up to 0", x.rank(0, 1), 3);
        x = masked(2, 2, 1023, 512, 511, 1);
        Looks.due("1023, 512", x.rank(0, 0), 2);
        Looks.due("512 and 511 sum up to 1023", x.rank(1, 0), 3);
        x = shaped(4, 4);
        Looks.due("family(0)", x.family(0), 4);
        Looks.due("family(1), 8 bits less their sum", x.family(1), 7);
        Looks.due("family(2), there are 10 bits", x.family(2), 10);
        Looks.due("rank of one WAY", x.rank(3, 3), 4);
        Looks.due("rank of two WAYS", x.rank(2, 1), 8);
        Looks.due("rank of two WAYS, a sum of theirs is 0", x.rank(3, 0), 7);
        Looks.due("rank(3, 4)", x.rank(3, 4), -1);
        Looks.due("rank(4, 4)", x.rank(4, 4), -1);
        Looks.due("rank(-1, 3)", x.rank(-1, 3), -1);
    }

    private static void ranksOfDrawn() {
        // By X 431 the MASKS are 372 999 89 342, 702 98 424 911, 187 549 566 962, 623 921 174 818.
        SkewedWays x = shaped(4, 4);
        x.family(2);
        int[][] ranks = {{4, 8, 8, 7}, {8, 4, 8, 8}, {8, 8, 4, 8}, {7, 8, 8, 4}};
        for (int way = 0; way < 4; way++) {
            for (int other = 0; other < 4; other++) {
                Looks.due("rank(" + way + ", " + other + ")", x.rank(way, other), ranks[way][other]);
            }
        }
    }

    private static void twins() {
        Looks.at("TWINS of a LINE: LINES (it, too) that have its INDEX in every WAY");
        SkewedWays x = shaped(4, 4);
        x.family(2);
        Looks.due("twins, all 10 bits being told apart", x.twins(1023), 1);
        Looks.due("twin, it alone", x.twin(1023, 0), 1023);
        Looks.due("twin(1023, 1)", x.twin(1023, 1), -1);
        Looks.due("twin(0, 0)", x.twin(0, 0), 0);
        x = masked(1, 1, 0);
        Looks.due("twins, all LINES", x.twins(0), 1024);
        Looks.due("twin(1023, 0)", x.twin(1023, 0), 0);
        Looks.due("twin(0, 1023)", x.twin(0, 1023), 1023);
        Looks.due("twin(0, 1024)", x.twin(0, 1024), -1);
        Looks.due("twin(0, -1)", x.twin(0, -1), -1);
        x = masked(1, 1, 1);
        Looks.due("twins(1023)", x.twins(1023), 512);
        Looks.due("twin(1023, 0)", x.twin(1023, 0), 1);
        Looks.due("twin(1023, 511)", x.twin(1023, 511), 1023);
        Looks.due("twin(1023, 512)", x.twin(1023, 512), -1);
        Looks.due("twin(0, 511)", x.twin(0, 511), 1022);
        Looks.due("twins(1024)", x.twins(1024), -1);
        Looks.due("twin(1024, 0)", x.twin(1024, 0), -1);
    }

    private static void together() {
        Looks.at("TOGETHER: in how many WAYS two LINES have a like INDEX");
        SkewedWays x = new SkewedWays();
        Looks.partWays(x, 4, 2);
        Looks.due("in none", x.together(0, 0b01010101), 0);
        Looks.due("in one", x.together(0, 0b01010100), 1);
        Looks.due("in three", x.together(0, 0b11000000), 3);
        Looks.due("in all", x.together(0, 256), 4);
        Looks.due("in all, itself", x.together(1023, 1023), 4);
        Looks.due("0 and 1023", x.together(0, 1023), 0);
        Looks.due("together(0, 1024)", x.together(0, 1024), -1);
        Looks.due("together(1024, 0)", x.together(1024, 0), -1);
        Looks.due("together(-1, 0)", x.together(-1, 0), -1);
        Looks.due("together(0, -1)", x.together(0, -1), -1);
        x = shaped(1, 1);
        Looks.due("of one WAY", x.together(0, 2), 1);
        Looks.due("of one WAY", x.together(0, 1), 0);
    }

    private static void spreads() {
        Looks.at("SPREAD of a stride s (1 .. 1023) and n (1 .. 64): LINES 0, s, 2 s, .. mod 1024");
        SkewedWays x = shaped(1, 4);
        Looks.due("n 1", x.spread(0, 1023, 1, 0), 1);
        Looks.due("n 1", x.spread(0, 1023, 1, 1), 1);
        Looks.due("n 64, s 1", x.spread(0, 1, 64, 0), 16);
        Looks.due("n 64, s 1", x.spread(0, 1, 64, 1), 4);
        Looks.due("n 17, s 1", x.spread(0, 1, 17, 1), 2);
        Looks.due("n 16, s 1023: 0, 1023, 1022, ..", x.spread(0, 1023, 16, 0), 16);
        Looks.due("n 16, s 1023", x.spread(0, 1023, 16, 1), 1);
        Looks.due("n 17, s 1023", x.spread(0, 1023, 17, 1), 2);
        Looks.due("s 16", x.spread(0, 16, 64, 0), 1);
        Looks.due("s 16", x.spread(0, 16, 64, 1), 64);
        Looks.due("s 15", x.spread(0, 15, 16, 0), 16);
        x = masked(1, 1, 512);
        Looks.due("n 32, s 16: up to 496", x.spread(0, 16, 32, 0), 1);
        Looks.due("n 33, s 16: up to 512", x.spread(0, 16, 33, 0), 2);
        Looks.due("n 64, s 16: up to 1008", x.spread(0, 16, 64, 1), 32);
        Looks.due("n 3, s 512: 0, 512, 0", x.spread(0, 512, 3, 1), 2);
        Looks.due("n 3, s 1023: 0, 1023, 1022", x.spread(0, 1023, 3, 1), 2);
        Looks.due("n 2, s 511: 0, 511", x.spread(0, 511, 2, 0), 1);
        Looks.due("n 3, s 511: 0, 511, 1022", x.spread(0, 511, 3, 0), 2);
        Looks.due("n 4, s 511: 0, 511, 1022, 509", x.spread(0, 511, 4, 1), 3);
        int[][] bad = {{0, 0, 1, 0}, {0, 1024, 1, 0}, {0, 1, 0, 0}, {0, 1, 65, 0}, {0, 1, 1, -1}, {0, 1, 1, 2}, {1, 1, 1, 0}, {-1, 1, 1, 0}};
        for (int[] b : bad) {
            Looks.due("spread", x.spread(b[0], b[1], b[2], b[3]), -1);
        }
    }

    private static void evens() {
        Looks.at("EVEN, a WAY: strides 1 .. 63 by which the first 2^BITS LINES are in unlike SLOTS");
        int[] masks = {0, 1, 2, 4, 8, 16, 32, 64, 128, 512, 1023};
        // By one bit a stride is EVEN that has an odd number of bits in the MASK: one half of 0 .. 63, or none.
        int[] evens = {0, 32, 32, 32, 32, 32, 32, 0, 0, 0, 32};
        for (int i = 0; i < masks.length; i++) {
            SkewedWays x = masked(1, 1, masks[i]);
            Looks.due("even by " + masks[i], x.even(0), evens[i]);
            Looks.due("evenAll by " + masks[i], x.evenAll(), evens[i]);
        }
        SkewedWays x = shaped(1, 4);
        Looks.due("by the low bits: the odd strides, 1 and 63 too", x.even(0), 32);
        x.mask(0, 3, 16);
        // By 1 the LINES 8 .. 15 are where 0 .. 7 are, since bit 3 is in no MASK.
        Looks.due("even", x.even(0), evenBy(x, 0));
        Looks.due("spread of 1", x.spread(0, 1, 16, 0), 8);
        Looks.at("EVEN in all WAYS");
        x = masked(2, 1, 1, 2);
        Looks.due("even(0)", x.even(0), 32);
        Looks.due("even(1)", x.even(1), 32);
        Looks.due("those with bits 0 and 1", x.evenAll(), 16);
        x = masked(4, 1, 1, 2, 4, 8);
        Looks.due("those with bits 0 .. 3", x.evenAll(), 4);
        x = masked(4, 1, 1, 2, 4, 64);
        Looks.due("none", x.evenAll(), 0);
        Looks.due("even(3)", x.even(3), 0);
        Looks.due("even(4)", x.even(4), -1);
        Looks.due("even(-1)", x.even(-1), -1);
        x = masked(3, 1, 1, 32, 63);
        // Of 1 .. 4 an odd number is in them beside 0 and 5: 8 of 16.
        Looks.due("bits 0, 5 and an odd number of all", x.evenAll(), 8);
    }

    private static int evenBy(SkewedWays x, int way) {
        int count = 0;
        for (int stride = 1; stride <= 63; stride++) {
            count += x.spread(way, stride, 1 << x.is(1), 0) == 1 << x.is(1) ? 1 : 0;
        }
        return count;
    }

    private static void evensBySpread() {
        for (int bits = 1; bits <= 4; bits++) {
            for (int family = 0; family < 3; family++) {
                SkewedWays x = shaped(2, bits);
                x.family(family);
                Looks.due("even by spread", x.even(0), evenBy(x, 0));
                Looks.due("even by spread", x.even(1), evenBy(x, 1));
            }
        }
        SkewedWays x = shaped(4, 4);
        x.family(2);
        int[] evens = {5, 7, 7, 1};
        for (int way = 0; way < 4; way++) {
            Looks.due("even(" + way + ") of those drawn", x.even(way), evens[way]);
        }
        x.family(1);
        int[] skewed = {7, 4, 4, 4};
        for (int way = 0; way < 4; way++) {
            Looks.due("even(" + way + ") of those skewed", x.even(way), skewed[way]);
        }
    }

    private static void scattered() {
        Looks.at("SCATTERED: in how many unlike SLOTS of the other WAY they are (unlike WAYS)");
        SkewedWays x = new SkewedWays();
        Looks.partWays(x, 2, 4);
        Looks.due("in all", x.scattered(0, 0, 1), 16);
        Looks.due("in all", x.scattered(1023, 1, 0), 16);
        x = shaped(2, 4);
        Looks.due("in one", x.scattered(1023, 0, 1), 1);
        x = masked(2, 2, 0, 0, 1, 2);
        Looks.due("all LINES are in one SLOT of 0", x.scattered(5, 0, 1), 4);
        Looks.due("all are in one SLOT of 0", x.scattered(5, 1, 0), 1);
        x = masked(2, 2, 1, 2, 1, 8);
        Looks.due("half of them", x.scattered(1, 0, 1), 2);
        Looks.due("scattered(0, 0, 0)", x.scattered(0, 0, 0), -1);
        Looks.due("scattered(0, 1, 1)", x.scattered(0, 1, 1), -1);
        Looks.due("scattered(0, 1, 2)", x.scattered(0, 1, 2), -1);
        Looks.due("scattered(0, 2, 1)", x.scattered(0, 2, 1), -1);
        Looks.due("scattered(0, -1, 1)", x.scattered(0, -1, 1), -1);
        Looks.due("scattered(0, 1, -1)", x.scattered(0, 1, -1), -1);
        Looks.due("scattered(-1, 0, 1)", x.scattered(-1, 0, 1), -1);
        Looks.due("scattered(1024, 0, 1)", x.scattered(1024, 0, 1), -1);
        x = shaped(1, 1);
        Looks.due("of one WAY", x.scattered(0, 0, 1), -1);
        Looks.due("of one WAY", x.scattered(0, 0, 0), -1);
    }

    private static void worsts() {
        Looks.at("WORST: the stride 1 .. 63 by which the most in one SLOT are most, of like ones the least");
        SkewedWays x = masked(1, 1, 585);
        // 585 is bits 0, 3, 6 and 9: by stride 63 (0, 63, 126, ..) 33 LINES have an even number of them.
        Looks.due("the last stride", x.worst(0, 33), 63);
        Looks.due("its most", x.spread(0, 63, 33, 1), 33);
        x = masked(1, 1, 52);
        Looks.due("the first stride, 64 being none", x.worst(0, 64), 1);
        Looks.due("64 would be", x.spread(0, 64, 64, 1), 64);
        Looks.due("none of 1 .. 63 has more", x.spread(0, 1, 64, 1), 32);
        x = shaped(1, 4);
        Looks.due("n 1, all alike", x.worst(0, 1), 1);
        Looks.due("n 2: 0 and 16", x.worst(0, 2), 16);
        Looks.due("n 3: 0 and 8 and 16 are two", x.worst(0, 3), 16);
        Looks.due("n 64", x.worst(0, 64), 16);
        Looks.due("n 0", x.worst(0, 0), -1);
        Looks.due("n 65", x.worst(0, 65), -1);
        Looks.due("worst(1, 64)", x.worst(1, 64), -1);
        x = masked(1, 2, 0, 0);
        Looks.due("all in one, the least", x.worst(0, 64), 1);
        x = shaped(4, 4);
        x.family(2);
        int[] worsts = {39, 29, 23, 22};
        for (int way = 0; way < 4; way++) {
            Looks.due("worst(" + way + ", 16) of those drawn", x.worst(way, 16), worsts[way]);
        }
    }

    private static void flips() {
        Looks.at("FLIPPED, a MASK: one of its bits 0 .. 9 the other way: EVEN of its WAY then");
        SkewedWays x = masked(2, 1, 0, 512);
        for (int of = 0; of < 10; of++) {
            Looks.due("flipped(0, 0, " + of + ")", x.flipped(0, 0, of), of < 6 ? 32 : 0);
        }
        Looks.due("flipped(1, 0, 9), 0 then", x.flipped(1, 0, 9), 0);
        Looks.due("flipped(1, 0, 0), 513 then", x.flipped(1, 0, 0), 32);
        Looks.due("flipped(0, 0, 10)", x.flipped(0, 0, 10), -1);
        Looks.due("flipped(0, 0, -1)", x.flipped(0, 0, -1), -1);
        Looks.due("flipped(0, 1, 0)", x.flipped(0, 1, 0), -1);
        Looks.due("flipped(0, -1, 0)", x.flipped(0, -1, 0), -1);
        Looks.due("flipped(2, 0, 0)", x.flipped(2, 0, 0), -1);
        Looks.due("flipped(-1, 0, 0)", x.flipped(-1, 0, 0), -1);
        Looks.due("the MASK is as it was", x.masked(0, 0), 0);
        Looks.due("the MASK is as it was", x.masked(1, 0), 512);
        x = shaped(1, 4);
        Looks.due("flipped(0, 3, 3), 0 then", x.flipped(0, 3, 3), 0);
        Looks.due("flipped(0, 3, 4), 24 then", x.flipped(0, 3, 4), flippedEven(0, 3, 24));
        Looks.due("flipped(0, 0, 9), 513 then", x.flipped(0, 0, 9), flippedEven(0, 0, 513));
    }

    private static int flippedEven(int way, int bit, int mask) {
        SkewedWays x = shaped(1, 4);
        x.mask(way, bit, mask);
        return x.even(way);
    }

    private static void bestFlips() {
        Looks.at("BEST FLIP: by which EVEN is most then; of like ones the lowest MASK, then the lowest bit");
        Looks.due("all of 0 .. 5 are alike", masked(1, 1, 0).bestFlip(0), 0);
        Looks.due("512: 0 .. 5 are alike", masked(1, 1, 512).bestFlip(0), 0);
        Looks.due("NONE: by none EVEN is more", masked(1, 1, 1).bestFlip(0), -1);
        Looks.due("NONE: by none EVEN is more", shaped(4, 4).bestFlip(3), -1);
        // Two MASKS that are 1: another bit in either of them is like good, the first MASK is the lowest.
        Looks.due("1, 1: MASK 0, bit 1", masked(1, 2, 1, 1).bestFlip(0), 1);
        Looks.due("2, 2: MASK 0, bit 0", masked(1, 2, 2, 2).bestFlip(0), 0);
        Looks.due("1, 0: MASK 1, bit 1", masked(1, 2, 1, 0).bestFlip(0), 17);
        Looks.due("1, 2, 0: MASK 2, bit 2", masked(1, 3, 1, 2, 0).bestFlip(0), 34);
        Looks.due("1, 2, 4, 0: MASK 3, bit 3", masked(1, 4, 1, 2, 4, 0).bestFlip(0), 51);
        Looks.due("0, 2, 4, 8: MASK 0, bit 0", masked(1, 4, 0, 2, 4, 8).bestFlip(0), 0);
        SkewedWays x = shaped(4, 4);
        x.family(2);
        int[] bests = {54, 39, -1, 37};
        int[] evens = {8, 8, 7, 6};
        for (int way = 0; way < 4; way++) {
            int best = x.bestFlip(way);
            Looks.due("bestFlip(" + way + ") of those drawn", best, bests[way]);
            if (best >= 0) {
                Looks.due("EVEN by it", x.flipped(way, best / 16, best % 16), evens[way]);
            }
        }
        Looks.due("bestFlip(4)", x.bestFlip(4), -1);
        Looks.due("bestFlip(-1)", x.bestFlip(-1), -1);
    }

    private static void sweeps() {
        Looks.at("SWEPT by s (1 .. 1023), n (1 .. 64), so many rounds (1 .. 9)");
        SkewedWays x = new SkewedWays();
        Looks.due("sweep(1, 1, 1)", x.sweep(1, 1, 1), 1);
        Looks.due("sweep(1, 1, 9)", x.sweep(1, 1, 9), 1);
        Looks.due("sweep(1023, 64, 1)", x.sweep(1023, 64, 1), 64);
        Looks.due("sweep(1, 8, 9)", x.sweep(1, 8, 9), 8);
        // Three LINES for two SLOTS, each time it is the one that comes next that went OUT.
        Looks.due("sweep(4, 3, 9)", x.sweep(4, 3, 9), 27);
        Looks.due("sweep(512, 64, 1): 0 and 512 in turn", x.sweep(512, 64, 1), 2);
        int[][] bad = {{0, 1, 1}, {1024, 1, 1}, {1, 0, 1}, {1, 65, 1}, {1, 1, 0}, {1, 1, 10}, {-1, 1, 1}, {1, -1, 1}, {1, 1, -1}};
        for (int[] b : bad) {
            Looks.due("sweep", x.sweep(b[0], b[1], b[2]), -1);
        }
        Looks.at("all SLOTS EMPTY ahead");
        for (int line = 0; line < 8; line++) {
            x.ask(line);
            x.pin(line, true);
        }
        Looks.due("sweep(1, 8, 2)", x.sweep(1, 8, 2), 8);
        Looks.due("holds(1, 8)", x.holds(1, 8), 8);
        Looks.due("holds(4, 8)", x.holds(4, 8), 2);
        Looks.due("pins", x.is(11), 8);
        Looks.at("HELD: how many of these LINES are in SLOTS behind one round");
        Looks.due("holds(1, 1)", x.holds(1, 1), 1);
        Looks.due("holds(1, 9)", x.holds(1, 9), 8);
        Looks.due("holds(1, 64)", x.holds(1, 64), 8);
        Looks.due("holds(1023, 64)", x.holds(1023, 64), 8);
        Looks.due("holds(512, 64)", x.holds(512, 64), 2);
        Looks.due("holds(512, 1)", x.holds(512, 1), 1);
        int[][] worse = {{0, 1}, {1024, 1}, {1, 0}, {1, 65}};
        for (int[] b : worse) {
            Looks.due("holds", x.holds(b[0], b[1]), -1);
        }
        Looks.at("SWEPT by the DEPTH as it is");
        x = new SkewedWays();
        Looks.partWays(x, 2, 2);
        // 0, 15, 30, .. 90: by DEPTH 3 all seven have room in the first round, by 2 in the second one.
        int[] misses = {9, 9, 8, 7};
        int[] held = {6, 6, 6, 7};
        for (int depth = 0; depth <= 3; depth++) {
            x.depth(depth);
            Looks.due("sweep by DEPTH " + depth, x.sweep(15, 7, 2), misses[depth]);
            Looks.due("holds by DEPTH " + depth, x.holds(15, 7), held[depth]);
        }
    }

    private static void rooms() {
        Looks.at("ROOM of a stride: the greatest n (1 .. 64)");
        SkewedWays x = shaped(4, 4);
        Looks.due("room(1): 64 of 64", x.room(1), 64);
        Looks.due("room(1023): 64 of 64", x.room(1023), 64);
        Looks.due("room(16): one SLOT in each WAY", x.room(16), 4);
        Looks.due("room(8): two SLOTS in each WAY", x.room(8), 8);
        Looks.at("ROOM, like ones being one");
        Looks.due("room(512): 0 and 512 in turn", x.room(512), 64);
        Looks.due("room(256): four LINES", x.room(256), 64);
        Looks.due("room(768): four LINES", x.room(768), 64);
        Looks.due("room(128): eight LINES", x.room(128), 4);
        x = shaped(1, 1);
        Looks.due("room(512): two LINES, one SLOT", x.room(512), 1);
        Looks.due("room(1)", x.room(1), 2);
        Looks.due("room(2)", x.room(2), 1);
        x = masked(1, 1, 512);
        Looks.due("room(512): 0 and 512 have room", x.room(512), 64);
        Looks.due("room(511): 0 and 511", x.room(511), 1);
        Looks.due("room(1023): 0 and 1023, not 1022", x.room(1023), 2);
        Looks.due("room(0)", x.room(0), -1);
        Looks.due("room(1024)", x.room(1024), -1);
        Looks.due("room(-1)", x.room(-1), -1);
        Looks.at("ROOM, where LINES must be moved on for others");
        // WAY 0 by bit 0, WAY 1 by bit 1: 0, 3, 6, 9 are of (0, 0) (1, 0), (0, 1) (1, 1), (0, 0) (1, 1), (0, 1) (1, 0).
        Looks.due("room(3)", masked(2, 1, 1, 2).room(3), 4);
        Looks.due("room(2)", masked(2, 1, 1, 2).room(2), 3);
        Looks.due("room(4)", masked(2, 1, 1, 2).room(4), 2);
    }

    private static void roomsOfMany() {
        // By the first free SLOT of each LINE alone, none moving on, there would be fewer: 5 and 5, 9, 26, 30, 54.
        SkewedWays x = new SkewedWays();
        Looks.partWays(x, 2, 2);
        Looks.due("room(1)", x.room(1), 6);
        Looks.due("room(3)", x.room(3), 8);
        Looks.due("room(9)", x.room(9), 8);
        x = new SkewedWays();
        Looks.partWays(x, 3, 2);
        Looks.due("room(5)", x.room(5), 12);
        x = shaped(4, 4);
        x.family(1);
        Looks.due("room(5)", x.room(5), 35);
        Looks.due("room(3)", x.room(3), 40);
        Looks.due("room(20), all SLOTS", x.room(20), 64);
        Looks.due("room(13)", x.room(13), 57);
    }

    private static void pairs() {
        Looks.at("Twos of LINES 0 .. n less 1 (n 1 .. 64) that have a like INDEX in all WAYS");
        SkewedWays x = shaped(4, 1);
        Looks.due("pairs(1)", x.pairs(1), 0);
        Looks.due("pairs(2)", x.pairs(2), 0);
        Looks.due("pairs(3)", x.pairs(3), 1);
        Looks.due("pairs(64)", x.pairs(64), 2 * 32 * 31 / 2);
        Looks.due("pairs(0)", x.pairs(0), -1);
        Looks.due("pairs(65)", x.pairs(65), -1);
        Looks.due("pairs(-1)", x.pairs(-1), -1);
        Looks.due("by 0 alone", masked(1, 1, 0).pairs(64), 64 * 63 / 2);
        Looks.due("by 0 alone", masked(1, 1, 0).pairs(2), 1);
        x = shaped(4, 4);
        x.family(2);
        Looks.due("none, all being told apart", x.pairs(64), 0);
    }

    private static SkewedWays gathered(SkewedWays x, int... lines) {
        for (int i = 0; i < lines.length; i++) {
            Looks.due("gather", x.gather(lines[i]), i + 1);
        }
        return x;
    }

    private static void theSet() {
        Looks.at("THE SET: LINES told (32 at most, in the order told; at first none)");
        SkewedWays x = new SkewedWays();
        Looks.set(x);
        Looks.due("gather(-1)", x.gather(-1), -1);
        Looks.due("gather(1024)", x.gather(1024), -1);
        Looks.set(x);
        for (int i = 0; i < 31; i++) {
            Looks.due("gather", x.gather(1023 - i), i + 1);
        }
        Looks.due("gather one that is there", x.gather(1023), -1);
        Looks.due("gathered(31)", x.gathered(31), -1);
        Looks.due("gather the 32nd", x.gather(0), 32);
        Looks.due("gathered(31)", x.gathered(31), 0);
        Looks.due("gather the 33rd", x.gather(1), -1);
        Looks.due("gather one that is there", x.gather(0), -1);
        Looks.due("gathered(-1)", x.gathered(-1), 32);
        Looks.due("gathered(32)", x.gathered(32), -1);
        Looks.due("gathered(-2)", x.gathered(-2), -1);
        Looks.due("scatter the last one", x.scatter(0), true);
        Looks.due("scatter it again", x.scatter(0), false);
        Looks.due("gathered(31)", x.gathered(31), -1);
        Looks.due("scatter the first one", x.scatter(1023), true);
        Looks.due("gathered(0)", x.gathered(0), 1022);
        Looks.due("gathered(29)", x.gathered(29), 993);
        Looks.due("scatter(-1)", x.scatter(-1), false);
        Looks.due("scatter(1024)", x.scatter(1024), false);
        Looks.due("gather behind all", x.gather(1023), 31);
        Looks.due("gathered(30)", x.gathered(30), 1023);
        int[] far = {-1 - 1, 31, 32, 33, 63, 1000, Integer.MIN_VALUE, Integer.MAX_VALUE};
        for (int i : far) {
            Looks.due("gathered(" + i + ")", x.gathered(i), -1);
        }
        Looks.due("gathered(-1)", x.gathered(-1), 31);
        x = gathered(new SkewedWays(), 5);
        for (int i = 1; i < 40; i++) {
            Looks.due("gathered(" + i + ")", x.gathered(i), -1);
        }
        Looks.due("scatter the one there is", x.scatter(5), true);
        Looks.set(x);
        Looks.due("gather it again", x.gather(5), 1);
        Looks.due("about(1), no STEPS", x.about(1), 0);
    }

    private static void collected() {
        Looks.at("COLLECTED: the unlike LINES of a TRACE (32 at most, the first ones, in order)");
        SkewedWays x = gathered(new SkewedWays(), 900, 901);
        Looks.told(x, "");
        Looks.told(x, "r9 r3 r9 w3:1 (r1)9");
        Looks.told(x, "r100+1*32 r100 r131");
        Looks.told(x, "r7 r200+1*31 r7 r300 r200");
        Looks.due("collect(4)", x.collect(4), -1);
        Looks.due("collect(-1)", x.collect(-1), -1);
        Looks.set(x, 900, 901);
        Looks.due("collect(1)", x.collect(1), 3);
        Looks.set(x, 9, 3, 1);
        Looks.due("collect(2), just 32", x.collect(2), 32);
        Looks.due("gathered(0)", x.gathered(0), 100);
        Looks.due("gathered(31)", x.gathered(31), 131);
        Looks.due("collect(3), one too many", x.collect(3), 32);
        Looks.due("gathered(0)", x.gathered(0), 7);
        Looks.due("gathered(31)", x.gathered(31), 230);
        Looks.due("gather(300)", x.gather(300), -1);
        Looks.due("collect(0), none", x.collect(0), 0);
        Looks.set(x);
    }

    private static void crowds() {
        Looks.at("CROWD: the SLOT to which most LINES of THE SET have their INDEX, of like ones the lowest");
        SkewedWays x = shaped(2, 4);
        Looks.due("an empty SET", x.crowd(0, false), 0);
        Looks.due("an empty SET", x.crowd(0, true), 0);
        gathered(x, 15);
        Looks.due("the last SLOT", x.crowd(1, false), 15);
        Looks.due("one", x.crowd(1, true), 1);
        x.gather(14);
        Looks.due("of like ones the lowest", x.crowd(1, false), 14);
        x.gather(31);
        Looks.due("the last SLOT", x.crowd(1, false), 15);
        Looks.due("two", x.crowd(1, true), 2);
        x.gather(30);
        Looks.due("of like ones the lowest", x.crowd(0, false), 14);
        Looks.due("crowd(2, true)", x.crowd(2, true), -1);
        Looks.due("crowd(-1, false)", x.crowd(-1, false), -1);
        x = shaped(1, 1);
        Looks.told(x, "r1+2*32");
        x.collect(0);
        Looks.due("all 32", x.crowd(0, true), 32);
        Looks.due("in SLOT 1", x.crowd(0, false), 1);
        x.mask(0, 0, 0);
        Looks.due("in SLOT 0", x.crowd(0, false), 0);
        Looks.due("all 32 of them", x.crowd(0, true), 32);
    }

    private static void fits() {
        Looks.at("FITTING: how many of them, at most, could be in SLOTS at once, each where its INDEX is");
        SkewedWays x = shaped(4, 4);
        Looks.due("none", x.fitting(), 0);
        Looks.due("none", x.fittingPlainly(), 0);
        Looks.told(x, "r0+1*32");
        Looks.told(x, "r0+16*32");
        x.collect(0);
        Looks.due("all 32", x.fitting(), 32);
        Looks.due("all 32", x.fittingPlainly(), 32);
        x.collect(1);
        Looks.due("by PLAIN MASKS four", x.fitting(), 4);
        Looks.due("by PLAIN MASKS four", x.fittingPlainly(), 4);
        x.family(1);
        // WAY 0 tells 16 .. 128 apart, 16 LINES each with 256: all SLOTS there, and as many in the others.
        Looks.due("by SKEWED ones", x.fitting(), 32);
        Looks.due("by PLAIN MASKS, as ever", x.fittingPlainly(), 4);
        x = shaped(1, 1);
        gathered(x, 0, 2, 4);
        Looks.due("one SLOT", x.fitting(), 1);
        x.gather(1);
        Looks.due("two SLOTS", x.fitting(), 2);
        Looks.due("two SLOTS", x.fittingPlainly(), 2);
        x.mask(0, 0, 0);
        Looks.due("one SLOT is the INDEX of none", x.fitting(), 1);
        Looks.due("by PLAIN MASKS", x.fittingPlainly(), 2);
        Looks.at("FITTING, where LINES must be moved on for others");
        // (0, 0) (1, 0); (0, 0) (1, 1); (0, 1) (1, 1); (0, 1) (1, 0): four LINES, four SLOTS; a fifth one has none.
        x = gathered(masked(2, 1, 1, 2), 0, 2, 3, 1);
        Looks.due("four", x.fitting(), 4);
        x.gather(4);
        Looks.due("no fifth one", x.fitting(), 4);
        Looks.due("PLAINLY", x.fittingPlainly(), 4);
        x.scatter(1);
        x.scatter(3);
        Looks.due("0, 2 and 4", x.fitting(), 3);
        Looks.due("PLAINLY", x.fittingPlainly(), 2);
        Looks.at("FITTING is of SLOTS as if all were EMPTY");
        x.ask(0);
        x.pin(0, true);
        x.ask(1);
        x.pin(1, true);
        Looks.due("0, 2 and 4", x.fitting(), 3);
    }

    private static void fitsByMoving() {
        Looks.at("FITTING, LINES moved on and on for others");
        SkewedWays x = new SkewedWays();
        Looks.partWays(x, 2, 2);
        // A line is a and 4 b: of (0, a) and (1, b). The third has both its SLOTS taken, the first moves to (1, 0).
        gathered(x, 0, 4, 20);
        Looks.due("one moves", x.fitting(), 3);
        x.gather(36);
        Looks.due("(0, 0), (1, 0) and (1, 1) are three SLOTS", x.fitting(), 3);
        x = new SkewedWays();
        Looks.partWays(x, 2, 2);
        // 0 in (0, 0), 4 in (1, 1), 5 in (0, 1); 21 is of (0, 1) and (1, 1): 4 moves to (0, 0), 0 to (1, 0).
        gathered(x, 0, 4, 5, 21);
        Looks.due("two move", x.fitting(), 4);
        x.gather(16);
        Looks.due("four SLOTS", x.fitting(), 4);
        x.gather(10);
        Looks.due("another one has room", x.fitting(), 5);
        x = new SkewedWays();
        Looks.partWays(x, 2, 2);
        // 0 in (0, 0), 9 in (0, 1), 5 in (1, 1); 4 for 0, that moves to (1, 0); 16 for 4, for 5, for 9, that moves to (1, 2).
        gathered(x, 0, 9, 5, 4, 16);
        Looks.due("five lines in five SLOTS", x.fitting(), 5);
        x.gather(32);
        Looks.due("no sixth one", x.fitting(), 5);
        x.gather(2);
        Looks.due("but one by itself", x.fitting(), 6);
        x = new SkewedWays();
        Looks.partWays(x, 2, 2);
        // 9, 25 and 41 are of (0, 1) and (1, 2): that 0 could move is nothing to them.
        gathered(x, 0, 9, 25, 41);
        Looks.due("0 and two of three", x.fitting(), 3);
        Looks.due("0 and three, PLAINLY two of them", x.fittingPlainly(), 3);
        x = shaped(4, 4);
        x.family(1);
        Looks.told(x, "r0+5*35");
        x.collect(0);
        Looks.due("32 of stride 5", x.fitting(), 32);
        Looks.due("32 of stride 5, PLAINLY", x.fittingPlainly(), 32);
    }

    private static void shares() {
        Looks.at("SHARES: twos of LINES of THE SET that have a like INDEX in just so many WAYS (0 .. WAYS)");
        SkewedWays x = new SkewedWays();
        Looks.partWays(x, 4, 2);
        for (int ways = 0; ways <= 4; ways++) {
            Looks.due("of none", x.shares(ways), 0);
        }
        x.gather(0);
        for (int ways = 0; ways <= 4; ways++) {
            Looks.due("of one LINE", x.shares(ways), 0);
        }
        x.gather(256);
        x.gather(0b11000000);
        x.gather(0b11111111);
        // 0 and 256: 4. Each with the third: 3. Each with the last: 0. The third and the last: 1.
        int[] shares = {2, 1, 0, 2, 1};
        for (int ways = 0; ways <= 4; ways++) {
            Looks.due("shares(" + ways + ")", x.shares(ways), shares[ways]);
        }
        Looks.due("shares(5)", x.shares(5), -1);
        Looks.due("shares(-1)", x.shares(-1), -1);
        x.shape(1, 1);
        Looks.due("shares(1) of one WAY", x.shares(1), 3);
        Looks.due("shares(0) of one WAY", x.shares(0), 3);
        Looks.due("shares(2) of one WAY", x.shares(2), -1);
        Looks.told(x, "r0+2*32");
        x.collect(0);
        Looks.due("all twos of 32", x.shares(1), 32 * 31 / 2);
    }

    private static void pieces() {
        Looks.at("PIECES: LINES of THE SET that have a like INDEX in some WAY are of one PIECE (on and on)");
        SkewedWays x = new SkewedWays();
        Looks.partWays(x, 2, 4);
        Looks.due("of none", x.pieces(), 0);
        Looks.due("piece of none", x.piece(0), -1);
        gathered(x, 0x00);
        Looks.due("of one LINE", x.pieces(), 1);
        Looks.due("piece", x.piece(0), 1);
        // In turn by WAY 0 and by WAY 1: each has to do with the one ahead of it alone.
        int[] chain = {0x10, 0x11, 0x21, 0x22, 0x32, 0x33, 0x43, 0x44, 0x54, 0x55};
        for (int i = 0; i < chain.length; i++) {
            x.gather(chain[i]);
            Looks.due("pieces", x.pieces(), 1);
            Looks.due("piece", x.piece(0), i + 2);
        }
        x.scatter(0x22);
        Looks.due("pieces, one of the chain being out", x.pieces(), 2);
        Looks.due("piece of the first", x.piece(0), 4);
        Looks.due("piece of the last", x.piece(0x55), 6);
        Looks.due("piece of the one that is out", x.piece(0x22), -1);
        x.gather(0x66);
        Looks.due("pieces, one alone", x.pieces(), 3);
        Looks.due("piece of it", x.piece(0x66), 1);
        x.gather(0x61);
        Looks.due("it is joined to the first by the last one told", x.piece(0x66), 6);
        Looks.due("pieces", x.pieces(), 2);
        x.gather(0x22);
        Looks.due("pieces", x.pieces(), 1);
        Looks.due("piece", x.piece(0x66), 13);
        piecesAnew();
        x = shaped(1, 4);
        Looks.told(x, "r0+1*32");
        x.collect(0);
        Looks.due("16 pieces of two", x.pieces(), 16);
        Looks.due("piece", x.piece(31), 2);
        x.mask(0, 0, 0);
        Looks.due("8 pieces of four", x.pieces(), 8);
        Looks.due("piece", x.piece(31), 4);
    }

    /** The last one told joins the two ahead of it; without it they are two, whatever was asked for before. */
    private static void piecesAnew() {
        SkewedWays x = new SkewedWays();
        Looks.partWays(x, 2, 4);
        gathered(x, 0x00, 0x11, 0x10);
        Looks.due("pieces", x.pieces(), 1);
        x.scatter(0x10);
        Looks.due("pieces", x.pieces(), 2);
        Looks.due("piece", x.piece(0x00), 1);
        Looks.due("piece", x.piece(0x11), 1);
    }

    public static void main(String[] args) {
        ranks();
        ranksOfDrawn();
        twins();
        together();
        spreads();
        evens();
        evensBySpread();
        scattered();
        worsts();
        flips();
        bestFlips();
        sweeps();
        rooms();
        roomsOfMany();
        pairs();
        theSet();
        collected();
        crowds();
        fits();
        fitsByMoving();
        shares();
        pieces();
        Looks.close();
    }
}
