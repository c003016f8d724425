import java.util.ArrayDeque;
import java.util.ArrayList;
import java.util.Arrays;
import java.util.HashMap;
import java.util.HashSet;
import java.util.LinkedHashSet;
import java.util.LinkedList;
import java.util.List;
import java.util.Map;
import java.util.Random;
import java.util.Set;
import java.util.TreeMap;

/**
 * Long runs of calls, drawn with a fixed seed, on SkewedWays and on a model of the document beside it
 * that is written another way (lists, maps, search through all), each answer of one against the other's.
 */
public final class ModelRuns {
    private static int wrong = 0;
    private static final List<String> calls = new ArrayList<>();

    // ---- the model

    private static final class Held {
        int line, value, age;
        boolean dirty, pinned;

        Held copy() {
            Held h = new Held();
            h.line = line;
            h.value = value;
            h.age = age;
            h.dirty = dirty;
            h.pinned = pinned;
            return h;
        }
    }

    private static final class Spot {
        final int way, slot;
        final Spot from;

        Spot(int way, int slot, Spot from) {
            this.way = way;
            this.slot = slot;
            this.from = from;
        }
    }

    private static final class State {
        int ways = 2, bits = 2, depth, hits, misses, out, back, moves, bypassed, x = 431;
        int[][] masks;
        Held[][] slots;
        Map<Integer, Integer> memory = new HashMap<>();
        List<int[]> book = new ArrayList<>();

        State copy() {
            State s = new State();
            s.ways = ways;
            s.bits = bits;
            s.depth = depth;
            s.hits = hits;
            s.misses = misses;
            s.out = out;
            s.back = back;
            s.moves = moves;
            s.bypassed = bypassed;
            s.x = x;
            s.masks = new int[ways][];
            s.slots = new Held[ways][1 << bits];
            for (int w = 0; w < ways; w++) {
                s.masks[w] = masks[w].clone();
                for (int k = 0; k < 1 << bits; k++) {
                    s.slots[w][k] = slots[w][k] == null ? null : slots[w][k].copy();
                }
            }
            s.memory = new HashMap<>(memory);
            s.book = new ArrayList<>(book);
            return s;
        }

        int mem(int line) {
            return memory.getOrDefault(line, line * 7 % 100);
        }

        int index(int line, int way) {
            int index = 0;
            for (int b = bits - 1; b >= 0; b--) {
                int odd = 0;
                for (int k = 0; k < 10; k++) {
                    if ((line >> k & 1) == 1 && (masks[way][b] >> k & 1) == 1) {
                        odd = 1 - odd;
                    }
                }
                index = index * 2 + odd;
            }
            return index;
        }

        Held held(int line) {
            for (Held[] row : slots) {
                for (Held h : row) {
                    if (h != null && h.line == line) {
                        return h;
                    }
                }
            }
            return null;
        }

        int wayOf(int line) {
            for (int w = 0; w < ways; w++) {
                for (Held h : slots[w]) {
                    if (h != null && h.line == line) {
                        return w;
                    }
                }
            }
            return -1;
        }

        int filled() {
            int n = 0;
            for (Held[] row : slots) {
                for (Held h : row) {
                    n += h == null ? 0 : 1;
                }
            }
            return n;
        }

        List<Spot> candidates(int line, int deep) {
            List<Spot> all = new ArrayList<>();
            if (held(line) != null) {
                return all;
            }
            List<Spot> level = new ArrayList<>();
            offer(all, level, line, -1, null);
            for (int d = 0; d < deep; d++) {
                List<Spot> next = new ArrayList<>();
                for (Spot s : level) {
                    Held h = slots[s.way][s.slot];
                    if (h != null) {
                        offer(all, next, h.line, s.way, s);
                    }
                }
                level = next;
            }
            return all;
        }

        void offer(List<Spot> all, List<Spot> level, int line, int but, Spot from) {
            for (int w = 0; w < ways; w++) {
                int k = index(line, w);
                boolean known = false;
                for (Spot s : all) {
                    known |= s.way == w && s.slot == k;
                }
                boolean pinned = slots[w][k] != null && slots[w][k].pinned;
                if (w != but && !known && !pinned) {
                    Spot s = new Spot(w, k, from);
                    all.add(s);
                    level.add(s);
                }
            }
        }

        boolean ask(int line) {
            Held h = held(line);
            if (h != null) {
                hits++;
                h.age = 0;
                return true;
            }
            misses++;
            List<Spot> all = candidates(line, depth);
            if (all.isEmpty()) {
                bypassed++;
                note(line, -1, 0, 1);
                return false;
            }
            Spot taken = null;
            for (Spot s : all) {
                if (taken == null && slots[s.way][s.slot] == null) {
                    taken = s;
                }
            }
            int gone = -1;
            while (taken == null) {
                for (Spot s : all) {
                    if (taken == null && slots[s.way][s.slot].age == 3) {
                        taken = s;
                    }
                }
                if (taken == null) {
                    for (Spot s : all) {
                        slots[s.way][s.slot].age++;
                    }
                } else {
                    Held v = slots[taken.way][taken.slot];
                    gone = v.line;
                    out++;
                    bring(v);
                }
            }
            int moved = 0;
            while (taken.from != null) {
                slots[taken.way][taken.slot] = slots[taken.from.way][taken.from.slot];
                taken = taken.from;
                moved++;
            }
            moves += moved;
            Held n = new Held();
            n.line = line;
            n.value = mem(line);
            n.age = 2;
            slots[taken.way][taken.slot] = n;
            note(line, gone, moved, 0);
            return false;
        }

        void note(int a, int b, int c, int d) {
            book.add(new int[] {a, b, c, d});
            if (book.size() > 24) {
                book.remove(0);
            }
        }

        boolean bring(Held h) {
            if (!h.dirty) {
                return false;
            }
            memory.put(h.line, h.value);
            h.dirty = false;
            back++;
            return true;
        }

        boolean write(int line, int value) {
            boolean hit = ask(line);
            Held h = held(line);
            if (h == null) {
                memory.put(line, value);
            } else {
                h.value = value;
                h.dirty = true;
            }
            return hit;
        }

        int empty() {
            int n = 0;
            for (int w = 0; w < ways; w++) {
                for (int k = 0; k < 1 << bits; k++) {
                    if (slots[w][k] != null && bring(slots[w][k])) {
                        n++;
                    }
                    slots[w][k] = null;
                }
            }
            return n;
        }

        void family(int f) {
            for (int w = 0; w < ways; w++) {
                for (int j = 0; j < bits; j++) {
                    if (f == 2) {
                        x = (x * 853 + 461) % 30047;
                        masks[w][j] = x % 1024;
                    } else if (f == 1) {
                        masks[w][j] = (int) (Math.pow(2, j) + Math.pow(2, bits + (j + w) % bits));
                    } else {
                        masks[w][j] = (int) Math.pow(2, j);
                    }
                }
            }
        }

        void shape(int w, int b) {
            ways = w;
            bits = b;
            masks = new int[w][b];
            slots = new Held[w][1 << b];
            family(0);
        }

        int even(int way) {
            int n = 0;
            for (int s = 1; s <= 63; s++) {
                Set<Integer> seen = new HashSet<>();
                for (int i = 0; i < 1 << bits; i++) {
                    seen.add(index(i * s, way));
                }
                n += seen.size() == 1 << bits ? 1 : 0;
            }
            return n;
        }
    }

    private static final class Op {
        final int line, value;

        Op(int line, int value) {
            this.line = line;
            this.value = value;
        }
    }

    private static final class Model {
        State s = new State();
        ArrayDeque<State> steps = new ArrayDeque<>();
        List<List<Op>> traces = new ArrayList<>();
        List<Integer> set = new ArrayList<>();
        List<Integer> tape = new ArrayList<>();
        int fault = -1, place = -1;
        State imageState;
        ArrayDeque<State> imageSteps;
        List<List<Op>> imageTraces;
        List<Integer> imageSet;

        Model() {
            s.shape(2, 2);
            image();
        }

        void save() {
            steps.addLast(s.copy());
            if (steps.size() > 20) {
                steps.removeFirst();
            }
        }

        int image() {
            imageState = s.copy();
            imageSteps = new ArrayDeque<>(steps);
            imageTraces = new ArrayList<>(traces);
            imageSet = new ArrayList<>(set);
            return s.filled();
        }

        int back() {
            s = imageState.copy();
            steps = new ArrayDeque<>(imageSteps);
            traces = new ArrayList<>(imageTraces);
            set = new ArrayList<>(imageSet);
            return s.filled();
        }

        int undo() {
            if (steps.isEmpty()) {
                return -1;
            }
            s = steps.removeLast().copy();
            return steps.size();
        }

        int feed(int[] words) {
            if (tape.size() > 280) {
                return -1;
            }
            for (int w : words) {
                tape.add(w >> 24 & 255);
                tape.add(w >> 16 & 255);
                tape.add(w >> 8 & 255);
                tape.add(w & 255);
            }
            return tape.size();
        }

        int end(int n) {
            if (n < 0 || n > tape.size()) {
                return -1;
            }
            tape = new ArrayList<>(tape.subList(0, n));
            return n;
        }

        int text() {
            if (traces.size() == 4) {
                return -1;
            }
            Parser p = new Parser(tape);
            tape = new ArrayList<>();
            List<Op> ops = p.parse();
            fault = p.fault;
            place = p.place;
            if (ops == null) {
                return -1;
            }
            traces.add(ops);
            return traces.size() - 1;
        }

        boolean line(int l) {
            return l >= 0 && l <= 1023;
        }

        boolean way(int w) {
            return w >= 0 && w < s.ways;
        }

        boolean bit(int b) {
            return b >= 0 && b < s.bits;
        }

        boolean trace(int t) {
            return t >= 0 && t < traces.size();
        }

        boolean in(int x, int a, int b) {
            return x >= a && x <= b;
        }

        int rank(List<Integer> masks) {
            Set<Integer> span = new HashSet<>();
            span.add(0);
            for (int m : masks) {
                Set<Integer> more = new HashSet<>(span);
                for (int v : span) {
                    more.add(v ^ m);
                }
                span = more;
            }
            int r = 0;
            while (1 << r < span.size()) {
                r++;
            }
            return r;
        }

        List<Integer> masksOf(int... ways) {
            List<Integer> all = new ArrayList<>();
            for (int w : ways) {
                for (int m : s.masks[w]) {
                    all.add(m);
                }
            }
            return all;
        }

        int shared(int a, int b) {
            int n = 0;
            for (int w = 0; w < s.ways; w++) {
                n += s.index(a, w) == s.index(b, w) ? 1 : 0;
            }
            return n;
        }

        List<Integer> twins(int l) {
            List<Integer> all = new ArrayList<>();
            for (int o = 0; o < 1024; o++) {
                if (shared(l, o) == s.ways) {
                    all.add(o);
                }
            }
            return all;
        }

        int[] spread(int way, int stride, int n) {
            Map<Integer, Integer> count = new HashMap<>();
            int most = 0;
            for (int i = 0; i < n; i++) {
                most = Math.max(most, count.merge(s.index(i * stride % 1024, way), 1, Integer::sum));
            }
            return new int[] {count.size(), most};
        }

        State fresh() {
            State c = s.copy();
            c.empty();
            return c;
        }

        int misses(State c, int t) {
            int ahead = c.misses;
            for (Op o : traces.get(t)) {
                if (o.value < 0) {
                    c.ask(o.line);
                } else {
                    c.write(o.line, o.value);
                }
            }
            return c.misses - ahead;
        }

        int missesBy(int t, int depth) {
            State c = fresh();
            c.depth = depth;
            return misses(c, t);
        }

        int matching(List<Integer> lines) {
            Map<Integer, Integer> owner = new HashMap<>();
            int n = 0;
            for (int l : lines) {
                n += seat(l, owner, new HashSet<>()) ? 1 : 0;
            }
            return n;
        }

        boolean seat(int l, Map<Integer, Integer> owner, Set<Integer> seen) {
            for (int w = 0; w < s.ways; w++) {
                int p = w * 100 + s.index(l, w);
                if (seen.add(p) && (!owner.containsKey(p) || seat(owner.get(p), owner, seen))) {
                    owner.put(p, l);
                    return true;
                }
            }
            return false;
        }

        Set<Integer> pieceOf(int l) {
            Set<Integer> piece = new HashSet<>();
            LinkedList<Integer> open = new LinkedList<>();
            open.add(l);
            while (!open.isEmpty()) {
                int a = open.removeFirst();
                if (piece.add(a)) {
                    for (int b : set) {
                        if (shared(a, b) > 0) {
                            open.add(b);
                        }
                    }
                }
            }
            return piece;
        }

        int distance(List<Op> t, int i) {
            for (int k = i - 1; k >= 0; k--) {
                if (t.get(k).line == t.get(i).line) {
                    Set<Integer> between = new HashSet<>();
                    for (int m = k + 1; m < i; m++) {
                        between.add(t.get(m).line);
                    }
                    return between.size();
                }
            }
            return -1;
        }

        int recent(List<Op> t, int n) {
            int misses = 0;
            for (int i = 0; i < t.size(); i++) {
                int d = distance(t, i);
                misses += d < 0 || d >= n ? 1 : 0;
            }
            return misses;
        }

        int unlike(List<Op> t, int from, int to) {
            Set<Integer> all = new HashSet<>();
            for (int i = from; i < to; i++) {
                all.add(t.get(i).line);
            }
            return all.size();
        }

        /** The fewest misses by going through all choices of what goes out, layer by layer. */
        int ideal(List<Op> t, int room) {
            Map<Set<Integer>, Integer> layer = new HashMap<>();
            layer.put(new HashSet<>(), 0);
            for (Op o : t) {
                Map<Set<Integer>, Integer> next = new HashMap<>();
                for (Map.Entry<Set<Integer>, Integer> e : layer.entrySet()) {
                    Set<Integer> have = e.getKey();
                    if (have.contains(o.line)) {
                        next.merge(have, e.getValue(), Math::min);
                    } else if (have.size() < room) {
                        Set<Integer> more = new HashSet<>(have);
                        more.add(o.line);
                        next.merge(more, e.getValue() + 1, Math::min);
                    } else {
                        for (int gone : have) {
                            Set<Integer> other = new HashSet<>(have);
                            other.remove(gone);
                            other.add(o.line);
                            next.merge(other, e.getValue() + 1, Math::min);
                        }
                    }
                }
                layer = next;
                if (layer.size() > 3000) {
                    return -7;
                }
            }
            int best = Integer.MAX_VALUE;
            for (int v : layer.values()) {
                best = Math.min(best, v);
            }
            return best;
        }
    }

    /** A reader of its own, by descent; a fault ends it. */
    private static final class Parser {
        final List<Integer> bytes;
        int at = 0, open = 0, fault = 0, place = -1;
        boolean failed = false;

        Parser(List<Integer> bytes) {
            this.bytes = bytes;
        }

        List<Op> parse() {
            List<Op> ops = items();
            if (!failed && peek() != -1) {
                fail(1);
            }
            if (!failed && ops.size() > 600) {
                fault = 4;
                place = bytes.size();
                failed = true;
            }
            return failed ? null : ops;
        }

        int peek() {
            while (at < bytes.size() && (bytes.get(at) == 32 || bytes.get(at) == 10)) {
                at++;
            }
            return at < bytes.size() ? bytes.get(at) : -1;
        }

        void fail(int which) {
            if (!failed) {
                peek();
                failed = true;
                fault = which;
                place = at;
            }
        }

        List<Op> items() {
            List<Op> ops = new ArrayList<>();
            while (!failed) {
                int c = peek();
                if (c == 'r') {
                    at++;
                    int line = number(0, 1023);
                    int step = 0;
                    int count = 1;
                    if (!failed && peek() == '+') {
                        at++;
                        step = number(0, 1023);
                        sign('*');
                        count = number(1, 99);
                    }
                    for (int i = 0; i < count && !failed; i++) {
                        ops.add(new Op((line + i * step) % 1024, -1));
                    }
                } else if (c == 'w') {
                    at++;
                    int line = number(0, 1023);
                    sign(':');
                    ops.add(new Op(line, number(0, 9999)));
                } else if (c == '(') {
                    if (open == 4) {
                        fail(3);
                        break;
                    }
                    at++;
                    open++;
                    List<Op> inner = items();
                    sign(')');
                    open--;
                    int times = number(1, 9);
                    for (int i = 0; i < times && ops.size() < 700; i++) {
                        ops.addAll(inner);
                    }
                } else {
                    break;
                }
            }
            return ops;
        }

        void sign(int want) {
            if (!failed && peek() == want) {
                at++;
            } else {
                fail(1);
            }
        }

        int number(int least, int most) {
            if (failed || peek() < '0' || peek() > '9') {
                fail(1);
                return 0;
            }
            int end = at;
            StringBuilder digits = new StringBuilder();
            while (end < bytes.size() && bytes.get(end) >= '0' && bytes.get(end) <= '9') {
                digits.append((char) (int) bytes.get(end));
                end++;
            }
            java.math.BigInteger n = new java.math.BigInteger(digits.toString());
            if (n.bitLength() > 20 || n.intValue() < least || n.intValue() > most) {
                fail(2);
                return 0;
            }
            at = end;
            return n.intValue();
        }
    }

    // ---- the runs

    private static void due(String call, long got, long want) {
        if (calls.size() < 600) {
            calls.add(call);
        }
        if (got != want) {
            wrong++;
            if (wrong < 20) {
                System.out.println("call " + calls.size() + ": " + call + " answered " + got + ", the model says " + want);
            }
        }
    }

    private static String sign(String name, int... args) {
        return name + Arrays.toString(args);
    }

    private static String drawText(Random r, int lines, int level) {
        StringBuilder b = new StringBuilder();
        int n = r.nextInt(5) + (level == 0 ? 1 : 0);
        for (int i = 0; i < n; i++) {
            String gap = r.nextInt(3) == 0 ? " " : r.nextInt(9) == 0 ? "\n" : "";
            switch (r.nextInt(level < 4 ? 6 : 4)) {
                case 0:
                    b.append('r').append(gap).append(r.nextInt(lines)).append(gap);
                    break;
                case 1:
                    b.append("r").append(r.nextInt(lines)).append(gap).append('+').append(r.nextInt(r.nextInt(4) == 0 ? 1024 : 20))
                        .append('*').append(gap).append(1 + r.nextInt(r.nextInt(4) == 0 ? 99 : 9));
                    break;
                case 2:
                case 3:
                    b.append('w').append(gap).append(r.nextInt(lines)).append(':').append(r.nextInt(10000)).append(gap);
                    break;
                default:
                    b.append('(').append(drawText(r, lines, level + 1)).append(gap).append(')').append(gap).append(1 + r.nextInt(r.nextInt(3) == 0 ? 9 : 3));
                    break;
            }
        }
        return b.toString();
    }

    private static String spoil(Random r, String text) {
        if (r.nextInt(3) > 0) {
            return text;
        }
        StringBuilder b = new StringBuilder(text);
        String signs = "rw+*:() \n0123456789x;-\u00e9\u0000";
        for (int i = 0; i <= r.nextInt(3); i++) {
            int at = r.nextInt(b.length() + 1);
            if (r.nextBoolean() || b.length() == 0) {
                b.insert(at, signs.charAt(r.nextInt(signs.length())));
            } else {
                b.deleteCharAt(at % b.length());
            }
        }
        return b.toString();
    }

    private static int num(Random r, int from, int to) {
        if (r.nextInt(25) == 0) {
            int[] edges = {from - 1, to + 1, -1, Integer.MIN_VALUE, Integer.MAX_VALUE, from, to};
            return edges[r.nextInt(edges.length)];
        }
        return from + r.nextInt(to - from + 1);
    }

    private static void feedText(Random r, SkewedWays x, Model m, String text) {
        String cut = text.length() > 300 ? text.substring(0, 300) : text;
        due("end(0)", x.end(0), m.end(0));
        for (int at = 0; at < cut.length(); at += 20) {
            int[] w = new int[5];
            for (int i = 0; i < 20; i++) {
                int c = at + i < cut.length() ? cut.charAt(at + i) : r.nextInt(256);
                w[i / 4] |= c << 24 - 8 * (i % 4);
            }
            due(sign("feed", w), x.feed(w[0], w[1], w[2], w[3], w[4]), m.feed(w));
        }
        due(sign("end", cut.length()), x.end(cut.length()), m.end(cut.length()));
    }

    private static int b(boolean is) {
        return is ? 1 : 0;
    }

    private static void change(Random r, SkewedWays x, Model m, int lines) {
        State s = m.s;
        int l = num(r, 0, lines - 1);
        if (r.nextInt(10) == 0) {
            l = num(r, 0, 1023);
        }
        int v = num(r, -9999, 9999);
        switch (r.nextInt(27)) {
            case 0: case 1: case 2: case 3: case 4: case 5: case 6: case 7: {
                int want = -10000;
                if (m.line(l)) {
                    m.save();
                    m.s.ask(l);
                    Held h = m.s.held(l);
                    want = h == null ? m.s.mem(l) : h.value;
                }
                due(sign("ask", l), x.ask(l), want);
                break;
            }
            case 8: case 9: case 10: case 11: {
                boolean want = false;
                if (m.line(l) && m.in(v, -9999, 9999)) {
                    m.save();
                    want = m.s.write(l, v);
                }
                due(sign("write", l, v), b(x.write(l, v)), b(want));
                break;
            }
            case 12: case 13: {
                boolean is = r.nextInt(3) > 0;
                Held h = s.held(l);
                boolean want = h != null && h.pinned != is;
                if (want) {
                    m.save();
                    h.pinned = is;
                }
                due(sign("pin", l, b(is)), b(x.pin(l, is)), b(want));
                break;
            }
            case 14: {
                Held h = s.held(l);
                int want = -10000;
                if (h != null && h.dirty) {
                    m.save();
                    m.s.bring(h);
                    want = h.value;
                }
                due(sign("clean", l), x.clean(l), want);
                break;
            }
            case 15: {
                Held h = s.held(l);
                int want = -10000;
                if (h != null) {
                    m.save();
                    s.bring(h);
                    want = h.value;
                    for (Held[] row : s.slots) {
                        for (int k = 0; k < row.length; k++) {
                            row[k] = row[k] == h ? null : row[k];
                        }
                    }
                }
                due(sign("leave", l), x.leave(l), want);
                break;
            }
            case 16: {
                m.save();
                int n = 0;
                for (Held[] row : s.slots) {
                    for (Held h : row) {
                        if (h != null && h.age < 3) {
                            h.age++;
                            n++;
                        }
                    }
                }
                due("cool", x.cool(), n);
                break;
            }
            case 17: {
                int w = num(r, 0, 3), o = num(r, 0, 3);
                boolean want = m.way(w) && m.way(o) && w != o;
                if (want) {
                    m.save();
                    int[] masks = s.masks[w];
                    s.masks[w] = s.masks[o];
                    s.masks[o] = masks;
                    Held[] row = s.slots[w];
                    s.slots[w] = s.slots[o];
                    s.slots[o] = row;
                }
                due(sign("trade", w, o), b(x.trade(w, o)), b(want));
                break;
            }
            case 18: {
                if (r.nextInt(4) == 0) {
                    m.save();
                    due("empty", x.empty(), s.empty());
                }
                break;
            }
            case 19: {
                if (r.nextInt(3) == 0) {
                    int w = num(r, 1, 4), k = num(r, 1, 4);
                    int want = -1;
                    if (m.in(w, 1, 4) && m.in(k, 1, 4)) {
                        m.save();
                        s.empty();
                        s.shape(w, k);
                        want = w * (1 << k);
                    }
                    due(sign("shape", w, k), x.shape(w, k), want);
                }
                break;
            }
            case 20: {
                if (r.nextInt(3) == 0) {
                    int f = num(r, 0, 2);
                    int want = -1;
                    if (m.in(f, 0, 2)) {
                        m.save();
                        s.empty();
                        s.family(f);
                        int[] all = new int[s.ways];
                        for (int i = 0; i < s.ways; i++) {
                            all[i] = i;
                        }
                        want = m.rank(m.masksOf(all));
                    }
                    due(sign("family", f), x.family(f), want);
                }
                break;
            }
            case 21: {
                if (r.nextInt(3) == 0) {
                    int w = num(r, 0, s.ways - 1), k = num(r, 0, s.bits - 1), mask = num(r, 0, 1023);
                    int want = -1;
                    if (m.way(w) && m.bit(k) && m.in(mask, 0, 1023)) {
                        m.save();
                        s.empty();
                        s.masks[w][k] = mask;
                        want = m.rank(m.masksOf(w));
                    }
                    due(sign("mask", w, k, mask), x.mask(w, k, mask), want);
                }
                break;
            }
            case 22: {
                int d = num(r, 0, 3);
                if (m.in(d, 0, 3)) {
                    m.save();
                    s.depth = d;
                }
                due(sign("depth", d), b(x.depth(d)), b(m.in(d, 0, 3)));
                break;
            }
            case 23: {
                int t = num(r, 0, 3);
                int want = -1;
                if (m.trace(t)) {
                    m.save();
                    want = m.misses(s, t);
                }
                due(sign("run", t), x.run(t), want);
                break;
            }
            case 24: {
                due("undo", x.undo(), m.undo());
                break;
            }
            case 25: {
                if (r.nextInt(3) == 0) {
                    int t = num(r, 0, 30046);
                    if (m.in(t, 0, 30046)) {
                        s.x = t;
                    }
                    due(sign("tell", t), b(x.tell(t)), b(m.in(t, 0, 30046)));
                }
                break;
            }
            default: {
                if (r.nextInt(4) == 0) {
                    due("image", x.image(), m.image());
                } else if (r.nextInt(5) == 0) {
                    due("back", x.back(), m.back());
                }
                break;
            }
        }
    }

    private static void changeSet(Random r, SkewedWays x, Model m, int lines) {
        int l = num(r, 0, lines - 1);
        switch (r.nextInt(7)) {
            case 0: case 1: case 2: case 3: {
                int want = -1;
                if (m.line(l) && !m.set.contains(l) && m.set.size() < 32) {
                    m.set.add(l);
                    want = m.set.size();
                }
                due(sign("gather", l), x.gather(l), want);
                break;
            }
            case 4: {
                int t = num(r, 0, 3);
                int want = -1;
                if (m.trace(t)) {
                    Set<Integer> all = new LinkedHashSet<>();
                    for (Op o : m.traces.get(t)) {
                        if (all.size() < 32) {
                            all.add(o.line);
                        }
                    }
                    m.set = new ArrayList<>(all);
                    want = all.size();
                }
                due(sign("collect", t), x.collect(t), want);
                break;
            }
            default: {
                if (r.nextBoolean() && !m.set.isEmpty()) {
                    l = m.set.get(r.nextInt(m.set.size()));
                }
                boolean want = m.set.remove((Integer) l);
                due(sign("scatter", l), b(x.scatter(l)), b(want));
                break;
            }
        }
    }

    private static void look(Random r, SkewedWays x, Model m, int lines) {
        State s = m.s;
        int l = num(r, 0, lines - 1), o = num(r, 0, lines - 1);
        int w = num(r, 0, s.ways - 1), w2 = num(r, 0, s.ways - 1), i = num(r, -1, 6);
        Held h = s.held(l);
        switch (r.nextInt(10)) {
            case 0: {
                int what = num(r, 0, 12);
                int pinned = 0;
                for (Held[] row : s.slots) {
                    for (Held p : row) {
                        pinned += p != null && p.pinned ? 1 : 0;
                    }
                }
                int[] all = {s.ways, s.bits, s.depth, s.hits, s.misses, s.out, s.back, s.moves, s.x,
                    s.ways * (1 << s.bits) - s.filled(), s.bypassed, pinned};
                due(sign("is", what), x.is(what), what >= 0 && what < 12 ? all[what] : -1);
                break;
            }
            case 1: {
                int k = num(r, 0, s.bits - 1);
                due(sign("masked", w, k), x.masked(w, k), m.way(w) && m.bit(k) ? s.masks[w][k] : -1);
                due(sign("index", l, w), x.index(l, w), m.line(l) && m.way(w) ? s.index(l, w) : -1);
                break;
            }
            case 2: {
                int k = num(r, 0, (1 << s.bits) - 1), what = num(r, 0, 4);
                int want = -10000;
                if (m.way(w) && m.in(k, 0, (1 << s.bits) - 1) && m.in(what, 0, 4)) {
                    Held p = s.slots[w][k];
                    want = what == 0 ? p == null ? -1 : p.line
                        : p == null ? 0
                        : what == 1 ? p.value : what == 2 ? b(p.dirty) : what == 3 ? p.age : b(p.pinned);
                }
                due(sign("slot", w, k, what), x.slot(w, k, what), want);
                break;
            }
            case 3: {
                due(sign("where", l), x.where(l), s.wayOf(l));
                due(sign("memory", l), x.memory(l), m.line(l) ? s.mem(l) : -10000);
                due(sign("value", l), x.value(l), !m.line(l) ? -10000 : h == null ? s.mem(l) : h.value);
                break;
            }
            case 4: {
                int age = num(r, 0, 3);
                int n = 0;
                int stale = 0;
                for (Held[] row : s.slots) {
                    for (Held p : row) {
                        n += p != null && p.age == age ? 1 : 0;
                        stale += p != null && p.value != s.mem(p.line) ? 1 : 0;
                    }
                }
                due(sign("aged", age), x.aged(age), n);
                due("stale", x.stale(), stale);
                break;
            }
            case 5: {
                int k = num(r, -1, 24), what = num(r, 0, 4);
                int want = k == -1 ? s.book.size()
                    : k >= 0 && k < s.book.size() && m.in(what, 0, 3) ? s.book.get(k)[what] : -2;
                due(sign("book", k, what), x.book(k, what), want);
                break;
            }
            case 6: {
                int d = num(r, 0, 3);
                due(sign("reach", l, d), x.reach(l, d),
                    m.line(l) && m.in(d, 0, 3) ? s.candidates(l, d).size() : -1);
                List<Spot> all = m.line(l) ? s.candidates(l, s.depth) : new ArrayList<>();
                due(sign("candidate", l, i), x.candidate(l, i), !m.line(l) ? -1 : i == -1 ? all.size()
                    : i >= 0 && i < all.size() ? 16 * all.get(i).way + all.get(i).slot : -1);
                break;
            }
            case 7: {
                int gone = -1;
                List<Integer> moved = new ArrayList<>();
                if (m.line(l) && h == null) {
                    State c = s.copy();
                    c.ask(l);
                    gone = c.book.get(c.book.size() - 1)[1];
                    moved = movedBy(s, l);
                }
                if (r.nextBoolean()) {
                    due(sign("victim", l), x.victim(l), gone);
                }
                due(sign("moved", l, i), x.moved(l, i), !m.line(l) ? -1 : i == -1 ? moved.size()
                    : i >= 0 && i < moved.size() ? moved.get(i) : -1);
                break;
            }
            case 8: {
                long want = s.hits + s.misses == 0 ? 0
                    : Double.doubleToRawLongBits((double) s.hits / (double) (s.hits + s.misses));
                due("ratio", x.ratio(), want);
                break;
            }
            default: {
                int what = num(r, 0, 3);
                int want = what == 0 ? m.traces.size() : what == 1 ? m.steps.size() : what == 2 ? m.tape.size() : -2;
                due(sign("about", what), x.about(what), want);
                int f = num(r, 0, 2);
                due(sign("fault", f), x.fault(f), f == 0 ? m.fault : f == 1 ? m.place : -1);
                break;
            }
        }
    }

    private static void weigh(Random r, SkewedWays x, Model m, int lines) {
        State s = m.s;
        int l = num(r, 0, lines - 1), o = num(r, 0, 1023), w = num(r, 0, s.ways - 1), w2 = num(r, 0, s.ways - 1);
        int stride = r.nextInt(3) == 0 ? 1 << r.nextInt(10) : num(r, 1, 1023);
        int n = num(r, 1, 64);
        boolean swept = m.in(stride, 1, 1023) && m.in(n, 1, 64);
        switch (r.nextInt(14)) {
            case 0:
                due(sign("rank", w, w2), x.rank(w, w2), m.way(w) && m.way(w2) ? m.rank(m.masksOf(w, w2)) : -1);
                break;
            case 1: {
                List<Integer> twins = m.line(l) ? m.twins(l) : new ArrayList<>();
                due(sign("twins", l), x.twins(l), m.line(l) ? twins.size() : -1);
                int i = num(r, 0, Math.max(1, twins.size()));
                due(sign("twin", l, i), x.twin(l, i), i >= 0 && i < twins.size() ? twins.get(i) : -1);
                break;
            }
            case 2:
                due(sign("together", l, o), x.together(l, o), m.line(l) && m.line(o) ? m.shared(l, o) : -1);
                break;
            case 3: {
                int what = num(r, 0, 1);
                due(sign("spread", w, stride, n, what), x.spread(w, stride, n, what),
                    m.way(w) && swept && m.in(what, 0, 1) ? m.spread(w, stride, n)[what] : -1);
                break;
            }
            case 4:
                due(sign("even", w), x.even(w), m.way(w) ? s.even(w) : -1);
                break;
            case 5: {
                int all = 0;
                for (int st = 1; st <= 63; st++) {
                    boolean ok = true;
                    for (int v = 0; v < s.ways; v++) {
                        ok &= m.spread(v, st, 1 << s.bits)[1] == 1;
                    }
                    all += ok ? 1 : 0;
                }
                due("evenAll", x.evenAll(), all);
                break;
            }
            case 6: {
                int want = -1;
                if (m.line(l) && m.way(w) && m.way(w2) && w != w2) {
                    Set<Integer> slots = new HashSet<>();
                    for (int e = 0; e < 1024; e++) {
                        if (s.index(e, w) == s.index(l, w)) {
                            slots.add(s.index(e, w2));
                        }
                    }
                    want = slots.size();
                }
                due(sign("scattered", l, w, w2), x.scattered(l, w, w2), want);
                break;
            }
            case 7: {
                int want = -1;
                if (m.way(w) && m.in(n, 1, 64)) {
                    TreeMap<Integer, Integer> byMost = new TreeMap<>();
                    for (int st = 63; st >= 1; st--) {
                        byMost.put(m.spread(w, st, n)[1], st);
                    }
                    want = byMost.lastEntry().getValue();
                }
                due(sign("worst", w, n), x.worst(w, n), want);
                break;
            }
            case 8: {
                int k = num(r, 0, s.bits - 1), of = num(r, 0, 9);
                int want = -1;
                if (m.way(w) && m.bit(k) && m.in(of, 0, 9)) {
                    State c = s.copy();
                    c.masks[w][k] ^= 1 << of;
                    want = c.even(w);
                }
                due(sign("flipped", w, k, of), x.flipped(w, k, of), want);
                break;
            }
            case 9: {
                if (r.nextInt(5) > 0) {
                    break;
                }
                int want = -1;
                if (m.way(w)) {
                    int best = s.even(w);
                    for (int k = 0; k < s.bits; k++) {
                        for (int of = 0; of < 10; of++) {
                            State c = s.copy();
                            c.masks[w][k] ^= 1 << of;
                            if (c.even(w) > best) {
                                best = c.even(w);
                                want = 16 * k + of;
                            }
                        }
                    }
                }
                due(sign("bestFlip", w), x.bestFlip(w), want);
                break;
            }
            case 10: {
                int rounds = num(r, 1, 9);
                int want = -1;
                if (swept && m.in(rounds, 1, 9)) {
                    State c = m.fresh();
                    for (int k = 0; k < rounds * n; k++) {
                        c.ask(k % n * stride % 1024);
                    }
                    want = c.misses - s.misses;
                }
                due(sign("sweep", stride, n, rounds), x.sweep(stride, n, rounds), want);
                break;
            }
            case 11: {
                int want = -1;
                if (swept) {
                    State c = m.fresh();
                    for (int k = 0; k < n; k++) {
                        c.ask(k * stride % 1024);
                    }
                    want = c.filled();
                }
                due(sign("holds", stride, n), x.holds(stride, n), want);
                break;
            }
            case 12: {
                int want = -1;
                if (m.in(n, 1, 64)) {
                    want = 0;
                    for (int a = 0; a < n; a++) {
                        for (int c = 0; c < a; c++) {
                            want += m.shared(a, c) == s.ways ? 1 : 0;
                        }
                    }
                }
                due(sign("pairs", n), x.pairs(n), want);
                break;
            }
            default: {
                int want = -1;
                if (m.in(stride, 1, 1023)) {
                    want = 0;
                    Set<Integer> all = new LinkedHashSet<>();
                    for (int k = 0; k < 64; k++) {
                        all.add(k * stride % 1024);
                        if (m.matching(new ArrayList<>(all)) == all.size()) {
                            want = k + 1;
                        }
                    }
                }
                due(sign("room", stride), x.room(stride), want);
                break;
            }
        }
    }

    private static void weighSet(Random r, SkewedWays x, Model m) {
        State s = m.s;
        int w = num(r, 0, s.ways - 1), i = num(r, -1, 32);
        switch (r.nextInt(6)) {
            case 0: {
                int k = num(r, 0, s.ways);
                int want = m.in(k, 0, s.ways) ? 0 : -1;
                for (int a = 0; a < m.set.size() && want >= 0; a++) {
                    for (int c = 0; c < a; c++) {
                        want += m.shared(m.set.get(a), m.set.get(c)) == k ? 1 : 0;
                    }
                }
                due(sign("shares", k), x.shares(k), want);
                break;
            }
            case 1: {
                int slot = -1, many = -1;
                for (int k = (1 << s.bits) - 1; m.way(w) && k >= 0; k--) {
                    int n = 0;
                    for (int l : m.set) {
                        n += s.index(l, w) == k ? 1 : 0;
                    }
                    if (n >= many) {
                        many = n;
                        slot = k;
                    }
                }
                due(sign("crowd", w, 0), x.crowd(w, false), slot);
                due(sign("crowd", w, 1), x.crowd(w, true), many);
                break;
            }
            case 2:
                due(sign("gathered", i), x.gathered(i),
                    i == -1 ? m.set.size() : i >= 0 && i < m.set.size() ? m.set.get(i) : -1);
                break;
            case 3:
                due("fitting", x.fitting(), m.matching(m.set));
                break;
            case 4: {
                State keep = m.s;
                m.s = keep.copy();
                m.s.family(0);
                int want = m.matching(m.set);
                m.s = keep;
                due("fittingPlainly", x.fittingPlainly(), want);
                break;
            }
            default: {
                Set<Set<Integer>> all = new HashSet<>();
                for (int l : m.set) {
                    all.add(m.pieceOf(l));
                }
                if (r.nextBoolean()) {
                    due("pieces", x.pieces(), all.size());
                }
                int l = m.set.isEmpty() || r.nextInt(4) == 0 ? num(r, 0, 1023) : m.set.get(r.nextInt(m.set.size()));
                due(sign("piece", l), x.piece(l), m.set.contains(l) ? m.pieceOf(l).size() : -1);
                break;
            }
        }
    }

    private static void study(Random r, SkewedWays x, Model m) {
        State s = m.s;
        int t = num(r, 0, Math.max(0, m.traces.size() - 1));
        boolean is = m.trace(t);
        List<Op> ops = is ? m.traces.get(t) : new ArrayList<>();
        switch (r.nextInt(12)) {
            case 0: {
                due(sign("length", t), x.length(t), is ? ops.size() : -1);
                int i = num(r, 0, Math.max(1, ops.size()));
                due(sign("step", t, i), x.step(t, i), i >= 0 && i < ops.size() ? ops.get(i).line : -1);
                break;
            }
            case 1:
                due(sign("wide", t), x.wide(t), is ? m.unlike(ops, 0, ops.size()) : -1);
                break;
            case 2: {
                int n = 0;
                for (Op o : ops) {
                    n += o.value >= 0 ? 1 : 0;
                }
                due(sign("writes", t), x.writes(t), is ? n : -1);
                break;
            }
            case 3: {
                int n = num(r, 1, 99);
                int most = is && m.in(n, 1, 99) ? 0 : -1;
                for (int from = 0; most >= 0 && from < ops.size(); from++) {
                    most = Math.max(most, m.unlike(ops, from, Math.min(ops.size(), from + n)));
                }
                due(sign("working", t, n), x.working(t, n), most);
                break;
            }
            case 4: {
                TreeMap<Integer, Integer> often = new TreeMap<>();
                for (Op o : ops) {
                    often.merge(o.line, 1, Integer::sum);
                }
                int line = -1, many = 0;
                for (Map.Entry<Integer, Integer> e : often.entrySet()) {
                    if (e.getValue() > many) {
                        many = e.getValue();
                        line = e.getKey();
                    }
                }
                due(sign("hottest", t, 0), x.hottest(t, false), line);
                due(sign("hottest", t, 1), x.hottest(t, true), is ? many : -1);
                break;
            }
            case 5: {
                int want = -1;
                if (is) {
                    want = ops.size() - m.misses(s.copy(), t);
                }
                due(sign("hits", t), x.hits(t), want);
                break;
            }
            case 6: {
                int d = num(r, 0, 3);
                due(sign("misses", t, d), x.misses(t, d), is && m.in(d, 0, 3) ? m.missesBy(t, d) : -1);
                break;
            }
            case 7: {
                int best = is ? 0 : -1;
                for (int d = 1; is && d < 4; d++) {
                    best = m.missesBy(t, d) < m.missesBy(t, best) ? d : best;
                }
                due(sign("deepest", t), x.deepest(t), best);
                break;
            }
            case 8: {
                int want = -1;
                if (is) {
                    State plain = m.fresh(), skewed = m.fresh();
                    plain.family(0);
                    skewed.family(1);
                    want = m.misses(skewed, t) < m.misses(plain, t) ? 1 : 0;
                }
                due(sign("suited", t), x.suited(t), want);
                break;
            }
            case 9: {
                int want = is ? m.ideal(ops, s.ways * (1 << s.bits)) : -1;
                if (want != -7) {
                    due(sign("ideal", t), x.ideal(t), want);
                }
                break;
            }
            case 10: {
                int i = num(r, 0, Math.max(1, ops.size()));
                due(sign("distance", t, i), x.distance(t, i), i >= 0 && i < ops.size() ? m.distance(ops, i) : -1);
                break;
            }
            default: {
                int n = num(r, 1, 64);
                due(sign("recent", t, n), x.recent(t, n), is && m.in(n, 1, 64) ? m.recent(ops, n) : -1);
                due(sign("conflicts", t), x.conflicts(t),
                    is ? m.missesBy(t, s.depth) - m.recent(ops, s.ways * (1 << s.bits)) : -10000);
                break;
            }
        }
    }

    private static void run(long seed) {
        Random r = new Random(seed);
        SkewedWays x = new SkewedWays();
        Model m = new Model();
        calls.clear();
        int[] ranges = {12, 24, 64, 200, 1024};
        int lines = ranges[r.nextInt(ranges.length)];
        while (calls.size() < 450) {
            int kind = r.nextInt(100);
            if (kind < 4 && calls.size() < 430) {
                feedText(r, x, m, spoil(r, drawText(r, lines, 0)));
                due("text", x.text(), m.text());
            } else if (kind < 50) {
                change(r, x, m, lines);
            } else if (kind < 58) {
                changeSet(r, x, m, lines);
            } else if (kind < 76) {
                look(r, x, m, lines);
            } else if (kind < 86) {
                weigh(r, x, m, lines);
            } else if (kind < 91) {
                weighSet(r, x, m);
            } else {
                study(r, x, m);
            }
            if (wrong > 0) {
                System.out.println("seed " + seed + ", behind these calls: " + calls);
                return;
            }
        }
        lookAtAll(x, m);
    }

    /** All that is counted, and the latest lines of the book. */
    private static void lookAtAll(SkewedWays x, Model m) {
        State s = m.s;
        int pinned = 0;
        for (Held[] row : s.slots) {
            for (Held p : row) {
                pinned += p != null && p.pinned ? 1 : 0;
            }
        }
        int[] all = {s.ways, s.bits, s.depth, s.hits, s.misses, s.out, s.back, s.moves, s.x,
            s.ways * (1 << s.bits) - s.filled(), s.bypassed, pinned};
        for (int what = 0; what < all.length; what++) {
            due(sign("is", what), x.is(what), all[what]);
        }
        int lines = s.book.size();
        for (int i = Math.max(0, lines - 4); i < lines; i++) {
            for (int what = 0; what < 4; what++) {
                due(sign("book", i, what), x.book(i, what), s.book.get(i)[what]);
            }
        }
    }

    private static void drawMasks(Random r, SkewedWays x, Model m, int ways, int bits) {
        m.s.empty();
        m.s.shape(ways, bits);
        due(sign("shape", ways, bits), x.shape(ways, bits), ways << bits);
        int few = 1 + r.nextInt(10);
        for (int w = 0; w < ways; w++) {
            for (int k = 0; k < bits; k++) {
                int mask = r.nextInt(1 << few);
                m.s.masks[w][k] = mask;
                due(sign("mask", w, k, mask), x.mask(w, k, mask), m.rank(m.masksOf(w)));
            }
        }
    }

    /** Sets of lines that are full, by masks of all kinds: what fits, what meets. */
    private static void runSets(long seed) {
        Random r = new Random(seed);
        SkewedWays x = new SkewedWays();
        Model m = new Model();
        calls.clear();
        while (calls.size() < 400) {
            drawMasks(r, x, m, 1 + r.nextInt(4), 1 + r.nextInt(r.nextBoolean() ? 4 : 2));
            int lines = 8 << r.nextInt(8);
            for (int i = 1 + r.nextInt(32); i > 0; i--) {
                int l = r.nextInt(lines);
                int want = -1;
                if (!m.set.contains(l) && m.set.size() < 32) {
                    m.set.add(l);
                    want = m.set.size();
                }
                due(sign("gather", l), x.gather(l), want);
            }
            due("fitting", x.fitting(), m.matching(m.set));
            for (int i = 0; i < 12; i++) {
                weighSet(r, x, m);
            }
            for (int i = 0; i < 25; i++) {
                weigh(r, x, m, lines);
            }
            while (m.set.size() > r.nextInt(12)) {
                int l = m.set.remove(r.nextInt(m.set.size()));
                due(sign("scatter", l), b(x.scatter(l)), 1);
            }
            if (wrong > 0) {
                System.out.println("set seed " + seed + ", behind these calls: " + calls);
                return;
            }
        }
    }

    /** Few slots, full of lines, some of them pinned, by great depths: lines that are moved far. */
    private static void runDeep(long seed) {
        Random r = new Random(seed);
        SkewedWays x = new SkewedWays();
        Model m = new Model();
        calls.clear();
        drawMasks(r, x, m, 2 + r.nextInt(3), 1 + r.nextInt(3));
        if (r.nextBoolean()) {
            m.s.empty();
            m.s.family(1);
            int[] ways = new int[m.s.ways];
            for (int i = 0; i < ways.length; i++) {
                ways[i] = i;
            }
            due("family", x.family(1), m.rank(m.masksOf(ways)));
        }
        int deep = 2 + r.nextInt(2);
        m.s.depth = deep;
        due("depth", b(x.depth(deep)), 1);
        feedText(r, x, m, drawText(r, 64, 0) + "(" + drawText(r, 64, 2) + ")2");
        due("text", x.text(), m.text());
        int lines = m.s.ways * (1 << m.s.bits) * (1 + r.nextInt(4)) + 3;
        while (calls.size() < 460) {
            int l = r.nextInt(lines);
            int kind = r.nextInt(20);
            Held h = m.s.held(l);
            if (kind == 0 && h != null && !h.pinned || kind == 1 && h != null && h.pinned) {
                h.pinned = kind == 0;
                due(sign("pin", l, 1 - kind), b(x.pin(l, kind == 0)), 1);
            } else if (kind < 5) {
                look(r, x, m, lines);
            } else if (kind == 5) {
                study(r, x, m);
            } else if (kind < 9) {
                int i = r.nextInt(5) - 1;
                List<Integer> moved = movedBy(m.s, l);
                due(sign("moved", l, i), x.moved(l, i), i == -1 ? moved.size() : i < moved.size() ? moved.get(i) : -1);
            } else if (kind < 11) {
                due(sign("write", l, kind), b(x.write(l, kind)), b(m.s.write(l, kind)));
            } else {
                m.s.ask(l);
                h = m.s.held(l);
                due(sign("ask", l), x.ask(l), h == null ? m.s.mem(l) : h.value);
            }
            m.steps.clear();
            for (int i = 0; i < x.about(1); i++) {
                m.steps.add(m.s);
            }
        }
        lookAtAll(x, m);
        if (wrong > 0) {
            System.out.println("deep seed " + seed + ", behind these calls: " + calls);
        }
    }

    /** The lines that would be moved, were one asked for: those that are in another way then. */
    private static List<Integer> movedBy(State s, int l) {
        List<Integer> moved = new ArrayList<>();
        if (s.held(l) != null) {
            return moved;
        }
        State c = s.copy();
        c.ask(l);
        int way = c.wayOf(l);
        int at = way < 0 ? -1 : c.index(l, way);
        for (int k = c.book.get(c.book.size() - 1)[2]; k > 0; k--) {
            int was = s.slots[way][at].line;
            moved.add(0, was);
            way = c.wayOf(was);
            at = c.index(was, way);
        }
        return moved;
    }

    /** Text after text, most of them with a fault; BACK to the first image takes the traces away. */
    private static void runTexts(long seed) {
        Random r = new Random(seed);
        SkewedWays x = new SkewedWays();
        Model m = new Model();
        calls.clear();
        while (calls.size() < 470) {
            String text = drawText(r, 1024, 0);
            for (int i = r.nextInt(4); i > 0; i--) {
                text = spoil(r, text);
            }
            if (r.nextInt(6) == 0) {
                text = "((((" + text + ")9)9)9)9";
            }
            feedText(r, x, m, text);
            int number = m.text();
            due("text of " + text, x.text(), number);
            due("fault(0)", x.fault(0), m.fault);
            due("fault(1)", x.fault(1), m.place);
            if (number >= 0) {
                int size = m.traces.get(number).size();
                due(sign("length", number), x.length(number), size);
                for (int i = 0; i < 5 && size > 0; i++) {
                    int at = r.nextInt(size);
                    due(sign("step", number, at), x.step(number, at), m.traces.get(number).get(at).line);
                }
                due("back", x.back(), m.back());
            }
            if (wrong > 0) {
                return;
            }
        }
    }

    public static void main(String[] args) {
        int runs = args.length > 0 ? Integer.parseInt(args[0]) : 120;
        for (int seed = 1; seed <= runs && wrong == 0; seed++) {
            run(seed);
        }
        for (int seed = 1; seed <= runs && wrong == 0; seed++) {
            runSets(seed);
            runDeep(seed);
        }
        for (int seed = 1; seed <= 5 * runs && wrong == 0; seed++) {
            runTexts(seed);
        }
        System.out.println(wrong == 0 ? runs + " runs are as the model says" : "the model says otherwise");
        if (wrong != 0) {
            System.exit(1);
        }
    }
}
