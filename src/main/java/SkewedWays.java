import java.util.Arrays;

/**
 * A small store of lines before a memory, each way with an index of its own made of masks.
 * What each call must do is said by the numbered promises of the document (../shared/DOC.md).
 */
public final class SkewedWays {
    /** None. */
    public static final int NONE = -1;

    private static final int NO_VALUE = -10000;
    private static final int NO_ENTRY = -2;
    private static final int LEAST_VALUE = -9999;
    private static final int MOST_VALUE = 9999;

    private static final int LINES = 1024;
    private static final int MOST_WAYS = 4;
    private static final int MOST_BITS = 4;
    private static final int SLOTS_OF_WAY = 16;
    private static final int PLACES = 64;
    private static final int MASK_BITS = 10;
    private static final int DEEPEST = 3;
    private static final int OLDEST = 3;
    private static final int AGE_OF_NEW = 2;
    private static final int DRAW_END = 30047;

    private static final int PLAIN = 0;
    private static final int SKEWED = 1;
    private static final int DRAWN = 2;

    private static final int HITS = 0;
    private static final int MISSES = 1;
    private static final int OUT = 2;
    private static final int BACK = 3;
    private static final int MOVES = 4;
    private static final int BYPASSED = 5;

    private static final int BOOK_LINES = 24;
    private static final int BOOK_PARTS = 4;
    private static final int MOST_STEPS = 20;
    private static final int MOST_TRACES = 4;
    private static final int MOST_TRACED = 600;
    private static final int MOST_TAPE = 300;
    private static final int MOST_SET = 32;
    private static final int MOST_STRIDE = 1023;
    private static final int MOST_SMALL_STRIDE = 63;
    private static final int MOST_SWEPT = 64;
    private static final int READ = -1;

    private final Whole now = new Whole();
    private final Whole kept = new Whole();
    private final Store trial = new Store();
    private final Search search = new Search();
    private final Worth worth = new Worth();
    private final Seating seating = new Seating();
    private final Study study = new Study();
    private final Reader reader = new Reader();
    private final Trace draft = new Trace();
    private final int[] groups = new int[MOST_SET];
    private final int[] tape = new int[MOST_TAPE];
    private int taped;
    private int lastFault = NONE;
    private int lastPlace = NONE;

    /** Promise 1. */
    public SkewedWays() {
        now.store.begin();
        kept.store.begin();
    }

    // ---- the tape and its texts

    /** Promise 2. */
    public int feed(int a, int b, int c, int d, int e) {
        if (taped + 20 > MOST_TAPE) {
            return NONE;
        }
        feedFour(a);
        feedFour(b);
        feedFour(c);
        feedFour(d);
        feedFour(e);
        return taped;
    }

    private void feedFour(int four) {
        for (int shift = 24; shift >= 0; shift -= 8) {
            if (taped < tape.length) {
                tape[taped] = (four >>> shift) & 255;
                taped++;
            }
        }
    }

    /** Promise 3. */
    public int end(int n) {
        if (n < 0 || n > taped) {
            return NONE;
        }
        taped = n;
        return n;
    }

    /** Promise 4. */
    public int text() {
        if (now.traced >= MOST_TRACES) {
            return NONE;
        }
        reader.read(tape, taped, draft);
        taped = 0;
        lastFault = reader.fault;
        lastPlace = reader.place;
        if (lastFault != 0) {
            return NONE;
        }
        int number = now.traced;
        now.traces[number].takeTrace(draft);
        now.traced = number + 1;
        return number;
    }

    /** Promise 5. */
    public int fault(int what) {
        if (what == 0) {
            return lastFault;
        }
        return what == 1 ? lastPlace : NONE;
    }

    // ---- what changes the store

    /** Promise 6. */
    public int ask(int line) {
        if (!isLine(line)) {
            return NO_VALUE;
        }
        now.remember();
        now.store.come(line, search);
        return now.store.valueOf(line);
    }

    /** Promise 7. */
    public boolean write(int line, int value) {
        if (!isLine(line) || value < LEAST_VALUE || value > MOST_VALUE) {
            return false;
        }
        now.remember();
        boolean hit = now.store.placeOf(line) != NONE;
        int place = now.store.come(line, search);
        now.store.put(line, place, value);
        return hit;
    }

    /** Promise 8. */
    public boolean pin(int line, boolean is) {
        int place = placeHeld(line);
        int flag = is ? 1 : 0;
        if (place == NONE || now.store.pinned[place] == flag) {
            return false;
        }
        now.remember();
        now.store.pinned[place] = flag;
        return true;
    }

    /** Promise 9. */
    public int clean(int line) {
        int place = placeHeld(line);
        if (place == NONE || now.store.dirty[place] == 0) {
            return NO_VALUE;
        }
        now.remember();
        now.store.bringBack(place);
        return now.store.values[place];
    }

    /** Promise 10. */
    public int leave(int line) {
        int place = placeHeld(line);
        if (place == NONE) {
            return NO_VALUE;
        }
        now.remember();
        int value = now.store.values[place];
        now.store.bringBack(place);
        now.store.makeEmpty(place);
        return value;
    }

    /** Promise 11. */
    public int cool() {
        now.remember();
        return now.store.coolAll();
    }

    /** Promise 12. */
    public boolean trade(int way, int other) {
        if (!isWay(way) || !isWay(other) || way == other) {
            return false;
        }
        now.remember();
        now.store.tradeWays(way, other);
        return true;
    }

    /** Promise 13. */
    public int empty() {
        now.remember();
        return now.store.emptyAll();
    }

    /** Promise 14. */
    public int shape(int ways, int bits) {
        if (ways < 1 || ways > MOST_WAYS || bits < 1 || bits > MOST_BITS) {
            return NONE;
        }
        now.remember();
        now.store.emptyAll();
        now.store.ways = ways;
        now.store.bits = bits;
        now.store.setFamily(PLAIN);
        return now.store.slotsInAll();
    }

    /** Promise 15. */
    public int family(int family) {
        if (family < PLAIN || family > DRAWN) {
            return NONE;
        }
        now.remember();
        now.store.emptyAll();
        now.store.setFamily(family);
        return worth.rankOfAll(now.store);
    }

    /** Promise 16. */
    public int mask(int way, int bit, int mask) {
        if (!isMask(way, bit) || mask < 0 || mask >= LINES) {
            return NONE;
        }
        now.remember();
        now.store.emptyAll();
        now.store.masks[maskAt(way, bit)] = mask;
        return worth.rankOfTwo(now.store, way, way);
    }

    /** Promise 17. */
    public boolean depth(int depth) {
        if (!isDepth(depth)) {
            return false;
        }
        now.remember();
        now.store.depth = depth;
        return true;
    }

    /** Promise 18. */
    public int run(int trace) {
        if (!isTrace(trace)) {
            return NONE;
        }
        now.remember();
        return missesOn(now.store, now.traces[trace]);
    }

    /** Promise 19. */
    public int undo() {
        return now.takeBack();
    }

    /** Promise 20. */
    public boolean tell(int x) {
        if (x < 0 || x >= DRAW_END) {
            return false;
        }
        now.store.drawn = x;
        return true;
    }

    // ---- the set

    /** Promise 21. */
    public int gather(int line) {
        if (!isLine(line) || now.placeInSet(line) != NONE || now.members >= MOST_SET) {
            return NONE;
        }
        now.addToSet(line);
        return now.members;
    }

    /** Promise 22. */
    public int collect(int trace) {
        if (!isTrace(trace)) {
            return NONE;
        }
        now.collectFrom(now.traces[trace]);
        return now.members;
    }

    /** Promise 23. */
    public boolean scatter(int line) {
        int at = now.placeInSet(line);
        if (at == NONE) {
            return false;
        }
        now.dropFromSet(at);
        return true;
    }

    // ---- what the store says of itself

    /** Promise 24. */
    public int is(int what) {
        Store store = now.store;
        switch (what) {
            case 0: return store.ways;
            case 1: return store.bits;
            case 2: return store.depth;
            case 3: return store.counted[HITS];
            case 4: return store.counted[MISSES];
            case 5: return store.counted[OUT];
            case 6: return store.counted[BACK];
            case 7: return store.counted[MOVES];
            case 8: return store.drawn;
            case 9: return store.slotsInAll() - store.linesHeld();
            case 10: return store.counted[BYPASSED];
            case 11: return store.linesPinned();
            default: return NONE;
        }
    }

    /** Promise 25. */
    public int masked(int way, int bit) {
        return isMask(way, bit) ? now.store.masks[maskAt(way, bit)] : NONE;
    }

    /** Promise 26. */
    public int index(int line, int way) {
        return isLine(line) && isWay(way) ? now.store.indexOf(line, way) : NONE;
    }

    /** Promise 27. */
    public int slot(int way, int slot, int what) {
        if (!isWay(way) || slot < 0 || slot >= now.store.slotsOfWay()) {
            return NO_VALUE;
        }
        int place = way * SLOTS_OF_WAY + slot;
        switch (what) {
            case 0: return now.store.lines[place];
            case 1: return now.store.values[place];
            case 2: return now.store.dirty[place];
            case 3: return now.store.ages[place];
            case 4: return now.store.pinned[place];
            default: return NO_VALUE;
        }
    }

    /** Promise 28. */
    public int where(int line) {
        int place = placeHeld(line);
        return place == NONE ? NONE : place / SLOTS_OF_WAY;
    }

    /** Promise 29. */
    public int memory(int line) {
        return isLine(line) ? now.store.memory[line] : NO_VALUE;
    }

    /** Promise 30. */
    public int value(int line) {
        return isLine(line) ? now.store.valueOf(line) : NO_VALUE;
    }

    /** Promise 31. */
    public int aged(int age) {
        int count = 0;
        for (int place = 0; place < PLACES; place++) {
            if (now.store.lines[place] != NONE && now.store.ages[place] == age) {
                count++;
            }
        }
        return count;
    }

    /** Promise 32. */
    public int book(int i, int what) {
        int entries = Math.min(now.store.booked, BOOK_LINES);
        if (i == NONE) {
            return entries;
        }
        if (i < 0 || i >= entries || what < 0 || what >= BOOK_PARTS) {
            return NO_ENTRY;
        }
        int entry = (now.store.booked - entries + i) % BOOK_LINES;
        return now.store.book[entry * BOOK_PARTS + what];
    }

    /** Promise 33. */
    public int stale() {
        int count = 0;
        for (int place = 0; place < PLACES; place++) {
            int line = now.store.lines[place];
            if (line != NONE && now.store.values[place] != now.store.memory[line]) {
                count++;
            }
        }
        return count;
    }

    // ---- what the masks are worth

    /** Promise 34. */
    public int rank(int way, int other) {
        return isWay(way) && isWay(other) ? worth.rankOfTwo(now.store, way, other) : NONE;
    }

    /** Promise 35. */
    public int twins(int line) {
        if (!isLine(line)) {
            return NONE;
        }
        int count = 0;
        for (int other = 0; other < LINES; other++) {
            if (now.store.areTwins(line, other)) {
                count++;
            }
        }
        return count;
    }

    /** Promise 36. */
    public int twin(int line, int i) {
        if (!isLine(line) || i < 0) {
            return NONE;
        }
        int ahead = 0;
        for (int other = 0; other < LINES; other++) {
            if (now.store.areTwins(line, other)) {
                if (ahead == i) {
                    return other;
                }
                ahead++;
            }
        }
        return NONE;
    }

    /** Promise 37. */
    public int together(int line, int other) {
        return isLine(line) && isLine(other) ? now.store.waysShared(line, other) : NONE;
    }

    /** Promise 38. */
    public int spread(int way, int stride, int n, int what) {
        if (!isWay(way) || !isStride(stride) || !isSwept(n) || what < 0 || what > 1) {
            return NONE;
        }
        worth.layOut(now.store, way, stride, n);
        return what == 0 ? worth.slotsUsed() : worth.mostInOne();
    }

    /** Promise 39. */
    public int even(int way) {
        return isWay(way) ? worth.evenStrides(now.store, way) : NONE;
    }

    /** Promise 40. */
    public int evenAll() {
        int count = 0;
        for (int stride = 1; stride <= MOST_SMALL_STRIDE; stride++) {
            if (worth.isEvenInAll(now.store, stride)) {
                count++;
            }
        }
        return count;
    }

    /** Promise 41. */
    public int scattered(int line, int way, int other) {
        if (!isLine(line) || !isWay(way) || !isWay(other) || way == other) {
            return NONE;
        }
        return worth.slotsScattered(now.store, line, way, other);
    }

    /** Promise 42. */
    public int worst(int way, int n) {
        return isWay(way) && isSwept(n) ? worth.worstStride(now.store, way, n) : NONE;
    }

    /** Promise 43. */
    public int flipped(int way, int bit, int of) {
        if (!isMask(way, bit) || of < 0 || of >= MASK_BITS) {
            return NONE;
        }
        return worth.evenIfFlipped(now.store, way, bit, of);
    }

    /** Promise 44. */
    public int bestFlip(int way) {
        return isWay(way) ? worth.bestFlipOf(now.store, way) : NONE;
    }

    /** Promise 45. */
    public int sweep(int stride, int n, int rounds) {
        if (!isStride(stride) || !isSwept(n) || rounds < 1 || rounds > 9) {
            return NONE;
        }
        sweepTrial(stride, n, rounds);
        return trial.counted[MISSES] - now.store.counted[MISSES];
    }

    /** Promise 46. */
    public int holds(int stride, int n) {
        if (!isStride(stride) || !isSwept(n)) {
            return NONE;
        }
        sweepTrial(stride, n, 1);
        return trial.linesHeld();
    }

    private void sweepTrial(int stride, int n, int rounds) {
        trial.takeStore(now.store);
        trial.emptyAll();
        for (int round = 0; round < rounds; round++) {
            for (int i = 0; i < n; i++) {
                trial.come(i * stride % LINES, search);
            }
        }
    }

    /** Promise 47. */
    public int pairs(int n) {
        if (!isSwept(n)) {
            return NONE;
        }
        int count = 0;
        for (int line = 0; line < n; line++) {
            for (int other = line + 1; other < n; other++) {
                if (now.store.areTwins(line, other)) {
                    count++;
                }
            }
        }
        return count;
    }

    /** Promise 48. */
    public int shares(int ways) {
        if (ways < 0 || ways > now.store.ways) {
            return NONE;
        }
        int count = 0;
        for (int i = 0; i < now.members; i++) {
            for (int k = i + 1; k < now.members; k++) {
                if (now.store.waysShared(now.set[i], now.set[k]) == ways) {
                    count++;
                }
            }
        }
        return count;
    }

    /** Promise 49. */
    public int room(int stride) {
        if (!isStride(stride)) {
            return NONE;
        }
        seating.clear();
        for (int i = 0; i < MOST_SWEPT; i++) {
            int line = i * stride % LINES;
            // The lines go round: once 0 comes again, all further ones are there already.
            if (i > 0 && line == 0) {
                return MOST_SWEPT;
            }
            if (!seating.admit(now.store, line)) {
                return i;
            }
        }
        return MOST_SWEPT;
    }

    // ---- the set: what fits, what meets

    /** Promise 50. */
    public int crowd(int way, boolean many) {
        if (!isWay(way)) {
            return NONE;
        }
        int slot = worth.crowdedSlot(now.store, way, now.set, now.members);
        return many ? worth.inSlot(slot) : slot;
    }

    /** Promise 51. */
    public int gathered(int i) {
        if (i == NONE) {
            return now.members;
        }
        return i >= 0 && i < now.members ? now.set[i] : NONE;
    }

    /** Promise 52. */
    public int fitting() {
        seating.clear();
        for (int i = 0; i < now.members; i++) {
            seating.admit(now.store, now.set[i]);
        }
        return seating.seated;
    }

    /** Promise 53. */
    public int fittingPlainly() {
        return worth.fitPlainly(now.store, now.set, now.members);
    }

    /** Promise 54. */
    public int pieces() {
        partIntoPieces();
        int count = 0;
        for (int i = 0; i < now.members; i++) {
            if (groups[i] == i) {
                count++;
            }
        }
        return count;
    }

    /** Promise 55. */
    public int piece(int line) {
        int at = now.placeInSet(line);
        if (at == NONE) {
            return NONE;
        }
        partIntoPieces();
        int count = 0;
        for (int i = 0; i < now.members; i++) {
            if (groups[i] == groups[at]) {
                count++;
            }
        }
        return count;
    }

    /** Each member gets the number of its piece, which is that of one of the piece's members. */
    private void partIntoPieces() {
        for (int i = 0; i < now.members; i++) {
            groups[i] = i;
        }
        for (int i = 0; i < now.members; i++) {
            for (int k = 0; k < i; k++) {
                if (groups[i] != groups[k] && now.store.waysShared(now.set[i], now.set[k]) > 0) {
                    joinPieces(groups[i], groups[k]);
                }
            }
        }
    }

    private void joinPieces(int from, int to) {
        for (int i = 0; i < now.members; i++) {
            if (groups[i] == from) {
                groups[i] = to;
            }
        }
    }

    // ---- a line foretold

    /** Promise 56. */
    public int reach(int line, int depth) {
        if (!isLine(line) || !isDepth(depth)) {
            return NONE;
        }
        search.lookUnlessHeld(now.store, line, depth);
        return search.count;
    }

    /** Promise 57. */
    public int candidate(int line, int i) {
        if (!isLine(line)) {
            return NONE;
        }
        search.lookUnlessHeld(now.store, line, now.store.depth);
        if (i == NONE) {
            return search.count;
        }
        // A place counts 16 slots to a way, as the answer does.
        return i >= 0 && i < search.count ? search.places[i] : NONE;
    }

    /** Promise 58. */
    public int victim(int line) {
        if (!isLine(line)) {
            return NONE;
        }
        search.lookUnlessHeld(now.store, line, now.store.depth);
        int taken = search.choose(now.store);
        return taken == NONE ? NONE : now.store.lines[search.places[taken]];
    }

    /** Promise 59. */
    public int moved(int line, int i) {
        if (!isLine(line)) {
            return NONE;
        }
        search.lookUnlessHeld(now.store, line, now.store.depth);
        int taken = search.choose(now.store);
        int count = 0;
        for (int level = 0; level < DEEPEST && taken != NONE; level++) {
            taken = search.origins[taken];
            if (taken != NONE) {
                if (count == i) {
                    return now.store.lines[search.places[taken]];
                }
                count++;
            }
        }
        return i == NONE ? count : NONE;
    }

    // ---- traces

    /** Promise 60. */
    public int length(int trace) {
        return isTrace(trace) ? now.traces[trace].size : NONE;
    }

    /** Promise 61. */
    public int step(int trace, int i) {
        if (!isTrace(trace) || i < 0 || i >= now.traces[trace].size) {
            return NONE;
        }
        return now.traces[trace].lines[i];
    }

    /** Promise 62. */
    public int wide(int trace) {
        return isTrace(trace) ? study.mostUnlike(now.traces[trace], MOST_TRACED) : NONE;
    }

    /** Promise 63. */
    public int writes(int trace) {
        return isTrace(trace) ? now.traces[trace].written() : NONE;
    }

    /** Promise 64. */
    public int working(int trace, int n) {
        if (!isTrace(trace) || n < 1 || n > 99) {
            return NONE;
        }
        return study.mostUnlike(now.traces[trace], n);
    }

    /** Promise 65. */
    public int hottest(int trace, boolean many) {
        if (!isTrace(trace)) {
            return NONE;
        }
        int line = study.hottestLine(now.traces[trace]);
        if (line == NONE) {
            return many ? 0 : NONE;
        }
        return many ? study.tally[line] : line;
    }

    /** Promise 66. */
    public int hits(int trace) {
        if (!isTrace(trace)) {
            return NONE;
        }
        trial.takeStore(now.store);
        return now.traces[trace].size - missesOn(trial, now.traces[trace]);
    }

    /** Promise 67. */
    public int misses(int trace, int depth) {
        if (!isTrace(trace) || !isDepth(depth)) {
            return NONE;
        }
        return missesForetold(now.traces[trace], depth);
    }

    /** Promise 68. */
    public int deepest(int trace) {
        if (!isTrace(trace)) {
            return NONE;
        }
        int best = 0;
        int fewest = missesForetold(now.traces[trace], 0);
        for (int depth = 1; depth <= DEEPEST; depth++) {
            int misses = missesForetold(now.traces[trace], depth);
            if (misses < fewest) {
                fewest = misses;
                best = depth;
            }
        }
        return best;
    }

    /** Promise 69. */
    public int suited(int trace) {
        if (!isTrace(trace)) {
            return NONE;
        }
        int plainly = missesByFamily(now.traces[trace], PLAIN);
        int skewed = missesByFamily(now.traces[trace], SKEWED);
        return skewed < plainly ? SKEWED : PLAIN;
    }

    /** Promise 70. */
    public int ideal(int trace) {
        return isTrace(trace) ? study.fewestMisses(now.traces[trace], now.store.slotsInAll()) : NONE;
    }

    /** Promise 71. */
    public int distance(int trace, int i) {
        if (!isTrace(trace) || i < 0 || i >= now.traces[trace].size) {
            return NONE;
        }
        return study.distanceAt(now.traces[trace], i);
    }

    /** Promise 72. */
    public int recent(int trace, int n) {
        return isTrace(trace) && isSwept(n) ? study.missesByRecency(now.traces[trace], n) : NONE;
    }

    /** Promise 73. */
    public int conflicts(int trace) {
        if (!isTrace(trace)) {
            return NO_VALUE;
        }
        int foretold = missesForetold(now.traces[trace], now.store.depth);
        return foretold - study.missesByRecency(now.traces[trace], now.store.slotsInAll());
    }

    private int missesForetold(Trace trace, int depth) {
        trial.takeStore(now.store);
        trial.emptyAll();
        trial.depth = depth;
        return missesOn(trial, trace);
    }

    private int missesByFamily(Trace trace, int family) {
        trial.takeStore(now.store);
        trial.emptyAll();
        trial.setFamily(family);
        return missesOn(trial, trace);
    }

    private int missesOn(Store store, Trace trace) {
        int ahead = store.counted[MISSES];
        for (int i = 0; i < trace.size; i++) {
            int place = store.come(trace.lines[i], search);
            if (trace.values[i] != READ) {
                store.put(trace.lines[i], place, trace.values[i]);
            }
        }
        return store.counted[MISSES] - ahead;
    }

    // ---- the whole

    /** Promise 74. */
    public long ratio() {
        int hits = now.store.counted[HITS];
        int all = hits + now.store.counted[MISSES];
        if (hits <= 0 || all <= 0) {
            return 0L;
        }
        double part = (double) hits / (double) all;
        int exponent = 1023;
        for (int i = 0; i < 64 && part < 1.0; i++) {
            part = part * 2.0;
            exponent--;
        }
        // Between 1 and 2 a double has 52 bits behind the point, so that this is exact.
        long fraction = (long) ((part - 1.0) * 4503599627370496.0);
        return ((long) exponent << 52) | fraction;
    }

    /** Promise 75. */
    public int image() {
        kept.takeAll(now);
        return now.store.linesHeld();
    }

    /** Promise 76. */
    public int back() {
        now.takeAll(kept);
        return now.store.linesHeld();
    }

    /** Promise 77. */
    public int about(int what) {
        switch (what) {
            case 0: return now.traced;
            case 1: return now.count;
            case 2: return taped;
            default: return NO_ENTRY;
        }
    }

    // ---- what is told, looked at

    private static boolean isLine(int line) {
        return line >= 0 && line < LINES;
    }

    private static boolean isDepth(int depth) {
        return depth >= 0 && depth <= DEEPEST;
    }

    private static boolean isStride(int stride) {
        return stride >= 1 && stride <= MOST_STRIDE;
    }

    private static boolean isSwept(int n) {
        return n >= 1 && n <= MOST_SWEPT;
    }

    private boolean isWay(int way) {
        return way >= 0 && way < now.store.ways;
    }

    private boolean isMask(int way, int bit) {
        return isWay(way) && bit >= 0 && bit < now.store.bits;
    }

    private boolean isTrace(int trace) {
        return trace >= 0 && trace < now.traced;
    }

    private int placeHeld(int line) {
        return isLine(line) ? now.store.placeOf(line) : NONE;
    }

    private static int maskAt(int way, int bit) {
        return way * MOST_BITS + bit;
    }

    /**
     * The ways with their masks and slots, the memory, what is counted: all that a step changes.
     * A place is a slot of a way, told in one number: 16 times the way and the slot.
     */
    private static final class Store {
        private int ways;
        private int bits;
        private int depth;
        private int drawn;
        private int booked;
        private final int[] masks = new int[MOST_WAYS * MOST_BITS];
        private final int[] counted = new int[BYPASSED + 1];
        private final int[] book = new int[BOOK_LINES * BOOK_PARTS];
        private final int[] memory = new int[LINES];
        private final int[] lines = new int[PLACES];
        private final int[] values = new int[PLACES];
        private final int[] dirty = new int[PLACES];
        private final int[] ages = new int[PLACES];
        private final int[] pinned = new int[PLACES];

        private Store() {
        }

        private void begin() {
            ways = 2;
            bits = 2;
            drawn = 431;
            setFamily(PLAIN);
            for (int line = 0; line < LINES; line++) {
                memory[line] = line * 7 % 100;
            }
            Arrays.fill(lines, NONE);
        }

        private void takeStore(Store other) {
            ways = other.ways;
            bits = other.bits;
            depth = other.depth;
            drawn = other.drawn;
            booked = other.booked;
            takeRow(other.masks, masks);
            takeRow(other.counted, counted);
            takeRow(other.book, book);
            takeRow(other.memory, memory);
            takeRow(other.lines, lines);
            takeRow(other.values, values);
            takeRow(other.dirty, dirty);
            takeRow(other.ages, ages);
            takeRow(other.pinned, pinned);
        }

        private static void takeRow(int[] from, int[] to) {
            System.arraycopy(from, 0, to, 0, Math.min(from.length, to.length));
        }

        private int slotsOfWay() {
            return 1 << bits;
        }

        private int slotsInAll() {
            return ways << bits;
        }

        private int linesHeld() {
            int count = 0;
            for (int place = 0; place < PLACES; place++) {
                if (lines[place] != NONE) {
                    count++;
                }
            }
            return count;
        }

        private int linesPinned() {
            int count = 0;
            for (int place = 0; place < PLACES; place++) {
                count += pinned[place];
            }
            return count;
        }

        // -- masks

        private int indexOf(int line, int way) {
            int index = 0;
            for (int bit = 0; bit < bits; bit++) {
                int common = Integer.bitCount(line & masks[way * MOST_BITS + bit]);
                index |= (common & 1) << bit;
            }
            return index;
        }

        private int placeIn(int line, int way) {
            return way * SLOTS_OF_WAY + indexOf(line, way);
        }

        private int placeOf(int line) {
            for (int way = 0; way < ways; way++) {
                int place = placeIn(line, way);
                if (lines[place] == line) {
                    return place;
                }
            }
            return NONE;
        }

        private int waysShared(int line, int other) {
            int count = 0;
            for (int way = 0; way < ways; way++) {
                if (indexOf(line, way) == indexOf(other, way)) {
                    count++;
                }
            }
            return count;
        }

        private boolean areTwins(int line, int other) {
            for (int way = 0; way < ways; way++) {
                // The index is linear: lines have a like one, if that of their difference is 0.
                if (indexOf(line ^ other, way) != 0) {
                    return false;
                }
            }
            return true;
        }

        private void setFamily(int family) {
            for (int way = 0; way < ways; way++) {
                for (int bit = 0; bit < bits; bit++) {
                    masks[maskAt(way, bit)] = maskOfFamily(family, way, bit);
                }
            }
        }

        private int maskOfFamily(int family, int way, int bit) {
            if (family == DRAWN) {
                drawn = (drawn * 853 + 461) % DRAW_END;
                return drawn % LINES;
            }
            int plain = 1 << bit;
            return family == SKEWED ? plain | 1 << (bits + (bit + way) % bits) : plain;
        }

        // -- lines that come and go

        private int valueOf(int line) {
            int place = placeOf(line);
            return place == NONE ? memory[line] : values[place];
        }

        /** A line is asked for: the place where it is then, or NONE, if it is bypassed. */
        private int come(int line, Search search) {
            int held = placeOf(line);
            if (held != NONE) {
                counted[HITS]++;
                ages[held] = 0;
                return held;
            }
            counted[MISSES]++;
            search.look(this, line, depth);
            int taken = search.choose(this);
            if (taken == NONE) {
                counted[BYPASSED]++;
                note(line, NONE, 0, 1);
                return NONE;
            }
            int gone = lines[search.places[taken]];
            if (gone != NONE) {
                growOlder(search);
                counted[OUT]++;
                bringBack(search.places[taken]);
            }
            int moved = moveOn(search, taken);
            int place = search.places[search.topOf(taken)];
            settle(line, place);
            note(line, gone, moved, 0);
            return place;
        }

        /** A line that has come to a place is written there, a bypassed one in the memory. */
        private void put(int line, int place, int value) {
            if (place == NONE) {
                memory[line] = value;
            } else {
                values[place] = value;
                dirty[place] = 1;
            }
        }

        /** All candidates age until one of them has the greatest age. */
        private void growOlder(Search search) {
            int eldest = 0;
            for (int i = 0; i < search.count; i++) {
                eldest = Math.max(eldest, ages[search.places[i]]);
            }
            for (int i = 0; i < search.count; i++) {
                ages[search.places[i]] += OLDEST - eldest;
            }
        }

        /** Lines move into the candidate that is taken and on, until one of level 0 is left. */
        private int moveOn(Search search, int taken) {
            int moved = 0;
            int to = taken;
            int from = search.origins[to];
            while (from != NONE && moved < DEEPEST) {
                moveLine(search.places[from], search.places[to]);
                moved++;
                to = from;
                from = search.origins[to];
            }
            counted[MOVES] += moved;
            return moved;
        }

        private void moveLine(int from, int to) {
            lines[to] = lines[from];
            values[to] = values[from];
            dirty[to] = dirty[from];
            ages[to] = ages[from];
        }

        private void settle(int line, int place) {
            lines[place] = line;
            values[place] = memory[line];
            dirty[place] = 0;
            ages[place] = AGE_OF_NEW;
        }

        private void note(int line, int gone, int moved, int bypassed) {
            int at = booked % BOOK_LINES * BOOK_PARTS;
            book[at] = line;
            book[at + 1] = gone;
            book[at + 2] = moved;
            book[at + 3] = bypassed;
            booked++;
        }

        /** The memory has the value of a place, if that is dirty: how many came back. */
        private int bringBack(int place) {
            int line = lines[place];
            if (line == NONE || dirty[place] == 0) {
                return 0;
            }
            memory[line] = values[place];
            dirty[place] = 0;
            counted[BACK]++;
            return 1;
        }

        private void makeEmpty(int place) {
            lines[place] = NONE;
            values[place] = 0;
            dirty[place] = 0;
            ages[place] = 0;
            pinned[place] = 0;
        }

        private int emptyAll() {
            int brought = 0;
            for (int place = 0; place < PLACES; place++) {
                brought += bringBack(place);
                makeEmpty(place);
            }
            return brought;
        }

        private int coolAll() {
            int cooled = 0;
            for (int place = 0; place < PLACES; place++) {
                if (lines[place] != NONE && ages[place] < OLDEST) {
                    ages[place]++;
                    cooled++;
                }
            }
            return cooled;
        }

        private void tradeWays(int way, int other) {
            tradeParts(masks, way, other, MOST_BITS);
            tradeParts(lines, way, other, SLOTS_OF_WAY);
            tradeParts(values, way, other, SLOTS_OF_WAY);
            tradeParts(dirty, way, other, SLOTS_OF_WAY);
            tradeParts(ages, way, other, SLOTS_OF_WAY);
            tradeParts(pinned, way, other, SLOTS_OF_WAY);
        }

        private static void tradeParts(int[] row, int way, int other, int wide) {
            for (int i = 0; i < wide; i++) {
                int held = row[way * wide + i];
                row[way * wide + i] = row[other * wide + i];
                row[other * wide + i] = held;
            }
        }
    }

    /** The candidates of a line, in order, each with the candidate that it was found from. */
    private static final class Search {
        private final int[] places = new int[PLACES];
        private final int[] origins = new int[PLACES];
        private final int[] known = new int[PLACES];
        private int count;

        private Search() {
        }

        private void lookUnlessHeld(Store store, int line, int depth) {
            if (store.placeOf(line) == NONE) {
                look(store, line, depth);
            } else {
                count = 0;
            }
        }

        private void look(Store store, int line, int depth) {
            count = 0;
            Arrays.fill(known, 0);
            addSlotsOf(store, line, NONE, NONE);
            int first = 0;
            for (int level = 1; level <= depth; level++) {
                int end = count;
                for (int i = first; i < end; i++) {
                    int held = store.lines[places[i]];
                    if (held != NONE) {
                        addSlotsOf(store, held, places[i] / SLOTS_OF_WAY, i);
                    }
                }
                first = end;
            }
        }

        private void addSlotsOf(Store store, int line, int ownWay, int origin) {
            for (int way = 0; way < store.ways; way++) {
                int place = way * SLOTS_OF_WAY + store.indexOf(line, way);
                boolean is = way != ownWay && known[place] == 0 && store.pinned[place] == 0;
                if (is && count < PLACES) {
                    known[place] = 1;
                    places[count] = place;
                    origins[count] = origin;
                    count++;
                }
            }
        }

        /** The candidate that is taken: the first empty one, else the first of the eldest. */
        private int choose(Store store) {
            int taken = NONE;
            int eldest = NONE;
            for (int i = 0; i < count; i++) {
                int place = places[i];
                if (store.lines[place] == NONE) {
                    return i;
                }
                if (store.ages[place] > eldest) {
                    eldest = store.ages[place];
                    taken = i;
                }
            }
            return taken;
        }

        /** The candidate of level 0 from which one was found, step by step. */
        private int topOf(int candidate) {
            int top = candidate;
            for (int level = 0; level < DEEPEST && origins[top] != NONE; level++) {
                top = origins[top];
            }
            return top;
        }
    }

    /** What the masks of a store are worth. */
    private static final class Worth {
        private final int[] rows = new int[MOST_WAYS * MOST_BITS];
        private final int[] tally = new int[SLOTS_OF_WAY];

        private Worth() {
        }

        private int rankOfAll(Store store) {
            int count = 0;
            for (int way = 0; way < store.ways; way++) {
                count = addMasks(store, way, count);
            }
            return rankOfRows(count);
        }

        private int rankOfTwo(Store store, int way, int other) {
            int count = addMasks(store, way, 0);
            if (other != way) {
                count = addMasks(store, other, count);
            }
            return rankOfRows(count);
        }

        private int addMasks(Store store, int way, int from) {
            int count = from;
            for (int bit = 0; bit < store.bits && count < rows.length; bit++) {
                rows[count] = store.masks[maskAt(way, bit)];
                count++;
            }
            return count;
        }

        private int rankOfRows(int count) {
            int rank = 0;
            for (int i = 0; i < count; i++) {
                if (rows[i] != 0) {
                    rank++;
                    clearBelow(i, count);
                }
            }
            return rank;
        }

        /** The lowest bit of a row is taken out of all rows behind it. */
        private void clearBelow(int i, int count) {
            int lowest = rows[i] & -rows[i];
            for (int k = i + 1; k < count; k++) {
                if ((rows[k] & lowest) != 0) {
                    rows[k] ^= rows[i];
                }
            }
        }

        private void layOut(Store store, int way, int stride, int n) {
            Arrays.fill(tally, 0);
            for (int i = 0; i < n; i++) {
                tally[store.indexOf(i * stride % LINES, way)]++;
            }
        }

        private int slotsUsed() {
            int count = 0;
            for (int slot = 0; slot < tally.length; slot++) {
                if (tally[slot] > 0) {
                    count++;
                }
            }
            return count;
        }

        private int mostInOne() {
            int most = 0;
            for (int slot = 0; slot < tally.length; slot++) {
                most = Math.max(most, tally[slot]);
            }
            return most;
        }

        private int inSlot(int slot) {
            return slot >= 0 && slot < tally.length ? tally[slot] : 0;
        }

        private boolean isEven(Store store, int way, int stride) {
            int seen = 0;
            for (int i = 0; i < store.slotsOfWay(); i++) {
                int slot = 1 << store.indexOf(i * stride % LINES, way);
                if ((seen & slot) != 0) {
                    return false;
                }
                seen |= slot;
            }
            return true;
        }

        private boolean isEvenInAll(Store store, int stride) {
            for (int way = 0; way < store.ways; way++) {
                if (!isEven(store, way, stride)) {
                    return false;
                }
            }
            return true;
        }

        private int evenStrides(Store store, int way) {
            int count = 0;
            for (int stride = 1; stride <= MOST_SMALL_STRIDE; stride++) {
                if (isEven(store, way, stride)) {
                    count++;
                }
            }
            return count;
        }

        private int slotsScattered(Store store, int line, int way, int other) {
            int index = store.indexOf(line, way);
            Arrays.fill(tally, 0);
            for (int each = 0; each < LINES; each++) {
                if (store.indexOf(each, way) == index) {
                    tally[store.indexOf(each, other)]++;
                }
            }
            return slotsUsed();
        }

        private int worstStride(Store store, int way, int n) {
            int worst = 1;
            int most = 0;
            for (int stride = 1; stride <= MOST_SMALL_STRIDE; stride++) {
                layOut(store, way, stride, n);
                int here = mostInOne();
                if (here > most) {
                    most = here;
                    worst = stride;
                }
            }
            return worst;
        }

        private int evenIfFlipped(Store store, int way, int bit, int of) {
            int at = maskAt(way, bit);
            int mask = store.masks[at];
            store.masks[at] = mask ^ 1 << of;
            int even = evenStrides(store, way);
            store.masks[at] = mask;
            return even;
        }

        private int bestFlipOf(Store store, int way) {
            int best = NONE;
            int most = evenStrides(store, way);
            for (int bit = 0; bit < store.bits; bit++) {
                for (int of = 0; of < MASK_BITS; of++) {
                    int even = evenIfFlipped(store, way, bit, of);
                    if (even > most) {
                        most = even;
                        best = bit * 16 + of;
                    }
                }
            }
            return best;
        }

        private int crowdedSlot(Store store, int way, int[] set, int members) {
            Arrays.fill(tally, 0);
            for (int i = 0; i < members && i < set.length; i++) {
                tally[store.indexOf(set[i], way)]++;
            }
            int best = 0;
            for (int slot = 1; slot < store.slotsOfWay(); slot++) {
                if (tally[slot] > tally[best]) {
                    best = slot;
                }
            }
            return best;
        }

        /** By plain masks the lines with the same low bits share one slot of each way. */
        private int fitPlainly(Store store, int[] set, int members) {
            Arrays.fill(tally, 0);
            for (int i = 0; i < members && i < set.length; i++) {
                tally[set[i] & store.slotsOfWay() - 1]++;
            }
            int fitting = 0;
            for (int slot = 0; slot < tally.length; slot++) {
                fitting += Math.min(tally[slot], store.ways);
            }
            return fitting;
        }
    }

    /** Lines that are seated in slots of theirs, others being moved on for them. */
    private static final class Seating {
        private final int[] guests = new int[PLACES];
        private final int[] seats = new int[PLACES];
        private final int[] owners = new int[PLACES];
        private final int[] reachedBy = new int[PLACES];
        private final int[] queue = new int[PLACES];
        private int seated;

        private Seating() {
        }

        private void clear() {
            seated = 0;
            Arrays.fill(owners, NONE);
        }

        /** Whether a line could be seated too; if it couldn't, all stay where they are. */
        private boolean admit(Store store, int line) {
            if (seated >= PLACES) {
                return false;
            }
            guests[seated] = line;
            seats[seated] = NONE;
            queue[0] = seated;
            Arrays.fill(reachedBy, NONE);
            int end = 1;
            for (int at = 0; at < end && at < PLACES; at++) {
                int guest = queue[at];
                for (int way = 0; way < store.ways; way++) {
                    int place = store.placeIn(guests[guest], way);
                    if (reachedBy[place] == NONE) {
                        reachedBy[place] = guest;
                        if (owners[place] == NONE) {
                            shiftTo(place);
                            seated++;
                            return true;
                        }
                        if (end < PLACES) {
                            queue[end] = owners[place];
                            end++;
                        }
                    }
                }
            }
            return false;
        }

        private void shiftTo(int free) {
            int place = free;
            for (int turn = 0; turn < PLACES && place != NONE; turn++) {
                int guest = reachedBy[place];
                int left = seats[guest];
                owners[place] = guest;
                seats[guest] = place;
                place = left;
            }
        }
    }

    /** The lines that a text asks for or writes, loops gone through; READ is no value. */
    private static final class Trace {
        private final int[] lines = new int[MOST_TRACED];
        private final int[] values = new int[MOST_TRACED];
        private int size;

        private Trace() {
        }

        private void takeTrace(Trace other) {
            size = other.size;
            System.arraycopy(other.lines, 0, lines, 0, size);
            System.arraycopy(other.values, 0, values, 0, size);
        }

        private void add(int line, int value) {
            if (size < MOST_TRACED) {
                lines[size] = line;
                values[size] = value;
                size++;
            }
        }

        private int written() {
            int count = 0;
            for (int i = 0; i < size; i++) {
                if (values[i] != READ) {
                    count++;
                }
            }
            return count;
        }
    }

    /** Reads a text, token by token, up to its first fault. */
    private static final class Reader {
        private static final int ITEMS = 0;
        private static final int READ_LINE = 1;
        private static final int READ_DONE = 2;
        private static final int STRIDE = 3;
        private static final int STRIDE_DONE = 4;
        private static final int COUNT = 5;
        private static final int WRITE_LINE = 6;
        private static final int WRITE_DONE = 7;
        private static final int VALUE = 8;
        private static final int TIMES = 9;
        private static final int MOST_OPEN = 4;
        private static final int HUGE = 100000;

        private final int[] starts = new int[MOST_OPEN];
        private int open;
        private int due;
        private int number;
        private int numberAt;
        private int line;
        private int stride;
        private boolean tooLong;
        private int fault;
        private int place;

        private Reader() {
        }

        private void read(int[] text, int length, Trace trace) {
            open = 0;
            due = ITEMS;
            tooLong = false;
            fault = 0;
            place = NONE;
            numberAt = NONE;
            trace.size = 0;
            for (int at = 0; at < length && at < text.length && fault == 0; at++) {
                if (isDigit(text[at])) {
                    takeDigit(text[at] - '0', at);
                } else {
                    endNumber(trace);
                    takeSign(text[at], at, trace);
                }
            }
            endNumber(trace);
            takeEnd(length);
        }

        private static boolean isDigit(int sign) {
            return sign >= '0' && sign <= '9';
        }

        private void takeDigit(int digit, int at) {
            if (numberAt == NONE) {
                numberAt = at;
                number = 0;
            }
            number = Math.min(number * 10 + digit, HUGE);
        }

        private void endNumber(Trace trace) {
            if (numberAt != NONE) {
                takeNumber(trace);
                numberAt = NONE;
            }
        }

        /** The first fault stays. */
        private void fail(int which, int at) {
            if (fault == 0) {
                fault = which;
                place = at;
            }
        }

        private void takeEnd(int length) {
            if (open > 0 || !mayItemCome()) {
                fail(1, length);
            } else if (tooLong) {
                fail(4, length);
            }
        }

        private boolean mayItemCome() {
            return due == ITEMS || due == READ_DONE;
        }

        private void takeSign(int sign, int at, Trace trace) {
            if (sign == ' ' || sign == '\n') {
                return;
            }
            if (sign == '(' && mayItemCome()) {
                openLoop(at, trace);
            } else if (sign == ')' && mayItemCome() && open > 0) {
                due = TIMES;
            } else if (sign == 'r' && mayItemCome()) {
                due = READ_LINE;
            } else if (sign == 'w' && mayItemCome()) {
                due = WRITE_LINE;
            } else if (sign == '+' && due == READ_DONE) {
                due = STRIDE;
            } else if (sign == '*' && due == STRIDE_DONE) {
                due = COUNT;
            } else if (sign == ':' && due == WRITE_DONE) {
                due = VALUE;
            } else {
                fail(1, at);
            }
        }

        private void openLoop(int at, Trace trace) {
            if (open >= MOST_OPEN) {
                fail(3, at);
                return;
            }
            starts[open] = trace.size;
            open++;
            due = ITEMS;
        }

        private void takeNumber(Trace trace) {
            switch (due) {
                case READ_LINE:
                    if (isWithin(0, LINES - 1)) {
                        line = number;
                        emit(trace, number, READ);
                        due = READ_DONE;
                    }
                    break;
                case STRIDE:
                    if (isWithin(0, LINES - 1)) {
                        stride = number;
                        due = STRIDE_DONE;
                    }
                    break;
                case COUNT:
                    if (isWithin(1, 99)) {
                        emitStrides(trace, number);
                        due = ITEMS;
                    }
                    break;
                case WRITE_LINE:
                    if (isWithin(0, LINES - 1)) {
                        line = number;
                        due = WRITE_DONE;
                    }
                    break;
                case VALUE:
                    if (isWithin(0, MOST_VALUE)) {
                        emit(trace, line, number);
                        due = ITEMS;
                    }
                    break;
                case TIMES:
                    if (isWithin(1, 9)) {
                        closeLoop(trace, number);
                        due = ITEMS;
                    }
                    break;
                default:
                    fail(1, numberAt);
                    break;
            }
        }

        private boolean isWithin(int least, int most) {
            if (number < least || number > most) {
                fail(2, numberAt);
                return false;
            }
            return true;
        }

        private void emit(Trace trace, int emitted, int value) {
            if (trace.size < MOST_TRACED) {
                trace.add(emitted, value);
            } else {
                tooLong = true;
            }
        }

        /** The first line of a stride is there already, since it was read as one by itself. */
        private void emitStrides(Trace trace, int count) {
            for (int i = 1; i < count; i++) {
                emit(trace, (line + i * stride) % LINES, READ);
            }
        }

        private void closeLoop(Trace trace, int times) {
            if (open <= 0) {
                return;
            }
            open--;
            int from = starts[open];
            int more = (trace.size - from) * (times - 1);
            for (int i = 0; i < more && !tooLong; i++) {
                emit(trace, trace.lines[from + i], trace.values[from + i]);
            }
        }
    }

    /** What is asked of a trace by itself, without ways and masks. */
    private static final class Study {
        private final int[] tally = new int[LINES];
        private final int[] nextUse = new int[MOST_TRACED];
        private final int[] held = new int[PLACES];
        private final int[] heldUntil = new int[PLACES];
        private int holding;

        private Study() {
        }

        /** The most unlike lines among n of a trace, one behind the other. */
        private int mostUnlike(Trace trace, int n) {
            Arrays.fill(tally, 0);
            int unlike = 0;
            int most = 0;
            for (int i = 0; i < trace.size; i++) {
                int come = trace.lines[i];
                if (tally[come] == 0) {
                    unlike++;
                }
                tally[come]++;
                if (i >= n) {
                    int gone = trace.lines[i - n];
                    tally[gone]--;
                    if (tally[gone] == 0) {
                        unlike--;
                    }
                }
                most = Math.max(most, unlike);
            }
            return most;
        }

        /** The line that comes most often, or NONE; the tally has how often each comes. */
        private int hottestLine(Trace trace) {
            Arrays.fill(tally, 0);
            for (int i = 0; i < trace.size; i++) {
                tally[trace.lines[i]]++;
            }
            int hottest = NONE;
            int most = 0;
            for (int line = 0; line < LINES; line++) {
                if (tally[line] > most) {
                    most = tally[line];
                    hottest = line;
                }
            }
            return hottest;
        }

        private int distanceAt(Trace trace, int i) {
            Arrays.fill(tally, 0);
            int unlike = 0;
            for (int k = i - 1; k >= 0; k--) {
                int line = trace.lines[k];
                if (line == trace.lines[i]) {
                    return unlike;
                }
                if (tally[line] == 0) {
                    tally[line] = 1;
                    unlike++;
                }
            }
            return NONE;
        }

        private int placeHolding(int line) {
            for (int at = 0; at < holding; at++) {
                if (held[at] == line) {
                    return at;
                }
            }
            return NONE;
        }

        /** Misses, if what was used longest ago goes out: the latest line is held first. */
        private int missesByRecency(Trace trace, int room) {
            holding = 0;
            int misses = 0;
            for (int i = 0; i < trace.size; i++) {
                int line = trace.lines[i];
                int at = placeHolding(line);
                if (at == NONE) {
                    misses++;
                    if (holding < room && holding < PLACES) {
                        holding++;
                    }
                    at = holding - 1;
                }
                for (int k = at; k > 0; k--) {
                    held[k] = held[k - 1];
                }
                held[0] = line;
            }
            return misses;
        }

        /** Misses, if what will be used again latest of all goes out: there are never fewer. */
        private int fewestMisses(Trace trace, int room) {
            findNextUses(trace);
            holding = 0;
            int misses = 0;
            for (int i = 0; i < trace.size; i++) {
                int at = placeHolding(trace.lines[i]);
                if (at == NONE) {
                    misses++;
                    at = placeToFill(room);
                }
                held[at] = trace.lines[i];
                heldUntil[at] = nextUse[i];
            }
            return misses;
        }

        private void findNextUses(Trace trace) {
            Arrays.fill(tally, MOST_TRACED);
            for (int i = trace.size - 1; i >= 0; i--) {
                nextUse[i] = tally[trace.lines[i]];
                tally[trace.lines[i]] = i;
            }
        }

        private int placeToFill(int room) {
            if (holding < room && holding < PLACES) {
                holding++;
                return holding - 1;
            }
            int latest = 0;
            for (int at = 1; at < holding; at++) {
                if (heldUntil[at] > heldUntil[latest]) {
                    latest = at;
                }
            }
            return latest;
        }
    }

    /** All that an image keeps: the store, its steps, the traces and the set. */
    private static final class Whole {
        private final Store store = new Store();
        private final Store[] steps = new Store[MOST_STEPS];
        private final Trace[] traces = new Trace[MOST_TRACES];
        private final int[] set = new int[MOST_SET];
        private int eldest;
        private int count;
        private int traced;
        private int members;

        private Whole() {
            for (int i = 0; i < MOST_STEPS; i++) {
                steps[i] = new Store();
            }
            for (int i = 0; i < MOST_TRACES; i++) {
                traces[i] = new Trace();
            }
        }

        private void takeAll(Whole other) {
            store.takeStore(other.store);
            eldest = 0;
            count = other.count;
            for (int i = 0; i < count; i++) {
                steps[i].takeStore(other.steps[(other.eldest + i) % MOST_STEPS]);
            }
            traced = other.traced;
            for (int i = 0; i < traced; i++) {
                traces[i].takeTrace(other.traces[i]);
            }
            members = other.members;
            System.arraycopy(other.set, 0, set, 0, members);
        }

        // -- steps

        /** The store as it is ahead of a step; the eldest step is lost, if there are too many. */
        private void remember() {
            if (count == MOST_STEPS) {
                eldest = (eldest + 1) % MOST_STEPS;
                count--;
            }
            steps[(eldest + count) % MOST_STEPS].takeStore(store);
            count++;
        }

        private int takeBack() {
            if (count == 0) {
                return NONE;
            }
            count--;
            store.takeStore(steps[(eldest + count) % MOST_STEPS]);
            return count;
        }

        // -- the set

        private int placeInSet(int line) {
            for (int i = 0; i < members; i++) {
                if (set[i] == line) {
                    return i;
                }
            }
            return NONE;
        }

        private void addToSet(int line) {
            if (members < MOST_SET) {
                set[members] = line;
                members++;
            }
        }

        private void dropFromSet(int at) {
            for (int i = at; i + 1 < members; i++) {
                set[i] = set[i + 1];
            }
            members--;
        }

        private void collectFrom(Trace trace) {
            members = 0;
            for (int i = 0; i < trace.size; i++) {
                if (placeInSet(trace.lines[i]) == NONE) {
                    addToSet(trace.lines[i]);
                }
            }
        }
    }
}
