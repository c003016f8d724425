/** What the edge tests share: answers that are due, texts on the tape, and a picture of all that can be seen. */
final class Looks {
    private static int wrong = 0;
    private static int seen = 0;
    private static String sentence = "";

    private Looks() {
    }

    /** The sentence of the document that the next answers are due by. */
    static void at(String words) {
        sentence = words;
    }

    static void due(String call, long got, long want) {
        seen++;
        if (got != want) {
            tell(call + " answered " + got + ", due is " + want);
        }
    }

    static void due(String call, boolean got, boolean want) {
        due(call, got ? 1 : 0, want ? 1 : 0);
    }

    static void not(String call, long got, long never) {
        seen++;
        if (got == never) {
            tell(call + " answered " + got);
        }
    }

    static void same(String call, String got, String want) {
        seen++;
        if (!got.equals(want)) {
            tell(call + " shows\n  " + got + "\n  due is\n  " + want);
        }
    }

    private static void tell(String what) {
        wrong++;
        if (wrong <= 40) {
            System.out.println(sentence + ": " + what);
        }
    }

    /** Ends the run, with exit code 1 if an answer was not as due. */
    static void close() {
        System.out.println(wrong == 0 ? "all " + seen + " answers are as due" : wrong + " answers are not as due");
        if (wrong != 0) {
            System.exit(1);
        }
    }

    /** The text alone is on the tape; a sign is one byte. */
    static void tape(SkewedWays x, String text) {
        due("end(0)", x.end(0), 0);
        for (int at = 0; at < text.length(); at += 20) {
            int[] w = new int[5];
            for (int i = 0; i < 20 && at + i < text.length(); i++) {
                w[i / 4] |= text.charAt(at + i) << 24 - 8 * (i % 4);
            }
            due("feed", x.feed(w[0], w[1], w[2], w[3], w[4]), at + 20);
        }
        due("end", x.end(text.length()), text.length());
    }

    static int told(SkewedWays x, String text) {
        tape(x, text);
        return x.text();
    }

    static String many(String part, int times) {
        StringBuilder b = new StringBuilder();
        for (int i = 0; i < times; i++) {
            b.append(part);
        }
        return b.toString();
    }

    /** Way 0 by the lowest bits, way 1 by the next ones, and so on: the index in a way is a part of the line. */
    static void partWays(SkewedWays x, int ways, int bits) {
        due("shape", x.shape(ways, bits), ways << bits);
        for (int way = 0; way < ways; way++) {
            for (int bit = 0; bit < bits; bit++) {
                due("mask", x.mask(way, bit, 1 << way * bits + bit), bits);
            }
        }
    }

    static void slot(SkewedWays x, int way, int slot, int... parts) {
        for (int what = 0; what < parts.length; what++) {
            due("slot(" + way + ", " + slot + ", " + what + ")", x.slot(way, slot, what), parts[what]);
        }
    }

    static void book(SkewedWays x, int i, int... parts) {
        for (int what = 0; what < parts.length; what++) {
            due("book(" + i + ", " + what + ")", x.book(i, what), parts[what]);
        }
    }

    /** The latest line of the BOOK. */
    static void lastBooked(SkewedWays x, int... parts) {
        book(x, x.book(-1, 0) - 1, parts);
    }

    static void candidates(SkewedWays x, int line, int... places) {
        due("candidate(" + line + ", -1)", x.candidate(line, -1), places.length);
        for (int i = 0; i < places.length; i++) {
            due("candidate(" + line + ", " + i + ")", x.candidate(line, i), places[i]);
        }
        due("candidate(" + line + ", " + places.length + ")", x.candidate(line, places.length), -1);
    }

    static void moved(SkewedWays x, int line, int... lines) {
        due("moved(" + line + ", -1)", x.moved(line, -1), lines.length);
        for (int i = 0; i < lines.length; i++) {
            due("moved(" + line + ", " + i + ")", x.moved(line, i), lines[i]);
        }
        due("moved(" + line + ", " + lines.length + ")", x.moved(line, lines.length), -1);
    }

    static void steps(SkewedWays x, int trace, int... lines) {
        due("length(" + trace + ")", x.length(trace), lines.length);
        for (int i = 0; i < lines.length; i++) {
            due("step(" + trace + ", " + i + ")", x.step(trace, i), lines[i]);
        }
        due("step(" + trace + ", " + lines.length + ")", x.step(trace, lines.length), -1);
    }

    static void set(SkewedWays x, int... lines) {
        due("gathered(-1)", x.gathered(-1), lines.length);
        for (int i = 0; i < lines.length; i++) {
            due("gathered(" + i + ")", x.gathered(i), lines[i]);
        }
        due("gathered(" + lines.length + ")", x.gathered(lines.length), -1);
    }

    /**
     * All that can be seen of a small object, and then what is seen of it with a step taken back, and back to the
     * image. It takes some 400 calls, so that the object is used up.
     */
    static String picture(SkewedWays x) {
        StringBuilder b = new StringBuilder();
        store(b, x);
        booked(b, x);
        told(b, x);
        b.append("\n  undo ").append(x.undo());
        store(b, x);
        b.append("\n  back ").append(x.back());
        store(b, x);
        told(b, x);
        return b.toString();
    }

    private static void store(StringBuilder b, SkewedWays x) {
        b.append(" is");
        for (int what = 0; what < 12; what++) {
            b.append(' ').append(x.is(what));
        }
        int ways = x.is(0);
        int bits = x.is(1);
        boolean small = ways << bits <= 8;
        for (int way = 0; way < ways; way++) {
            b.append(" masks");
            for (int bit = 0; bit < bits; bit++) {
                b.append(' ').append(x.masked(way, bit));
            }
            for (int slot = 0; slot < 1 << bits; slot++) {
                int line = x.slot(way, slot, 0);
                b.append(' ').append(line);
                for (int what = 1; what < 5 && (small || line >= 0); what++) {
                    b.append(' ').append(x.slot(way, slot, what));
                }
            }
        }
        b.append(" memory");
        for (int line : USED) {
            b.append(' ').append(x.memory(line));
        }
    }

    private static final int[] USED = {0, 1, 2, 3, 4, 5, 8, 11, 14, 1023};

    private static void booked(StringBuilder b, SkewedWays x) {
        int lines = x.book(-1, 0);
        b.append(" book ").append(lines);
        for (int i = 0; i < lines; i++) {
            for (int what = 0; what < 4; what++) {
                b.append(' ').append(x.book(i, what));
            }
        }
    }

    private static void told(StringBuilder b, SkewedWays x) {
        int lines = x.gathered(-1);
        b.append(" set ").append(lines);
        for (int i = 0; i < lines; i++) {
            b.append(' ').append(x.gathered(i));
        }
        b.append(" traces ").append(x.about(0));
        for (int trace = 0; trace < 4; trace++) {
            b.append(' ').append(x.length(trace)).append(' ').append(x.wide(trace)).append(' ').append(x.writes(trace));
            b.append(' ').append(x.step(trace, 0)).append(' ').append(x.step(trace, x.length(trace) - 1));
        }
        b.append(" steps ").append(x.about(1)).append(" tape ").append(x.about(2));
        b.append(" fault ").append(x.fault(0)).append(' ').append(x.fault(1));
    }

    /**
     * An object of which much was asked: unlike an own image, lines that are dirty, pinned, old and new, THE SET,
     * two traces, a fault, a tape of 7 bytes, X told. Its steps are fewer than 20. Line 900 is nowhere.
     */
    static SkewedWays busy(int ways, int bits) {
        SkewedWays x = new SkewedWays();
        told(x, "(r0 r4 w8:5)2 r9");
        x.gather(700);
        x.shape(ways, bits);
        x.write(3, 33);
        x.image();
        x.family(1);
        x.depth(2);
        x.write(1, 100);
        x.ask(4);
        x.ask(11);
        x.write(14, -3);
        x.cool();
        x.ask(5);
        x.ask(5);
        x.pin(5, true);
        x.gather(5);
        x.gather(1023);
        told(x, "r1 w2:3 w1:4");
        told(x, "r1 r1024");
        x.tell(77);
        tape(x, "r5 r6 r");
        return x;
    }
}
