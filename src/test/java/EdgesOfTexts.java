/** Part II of the document: the tape, tokens, numbers, loops, faults and their places, 4 traces, 600 lines. */
public final class EdgesOfTexts {
    private static final int BLANK = 0x20202020;

    private static void taken(String text, int... lines) {
        SkewedWays x = new SkewedWays();
        Looks.due("text of '" + text + "'", Looks.told(x, text), 0);
        Looks.due("fault(0)", x.fault(0), 0);
        Looks.due("fault(1)", x.fault(1), -1);
        Looks.due("about(0)", x.about(0), 1);
        Looks.due("about(2), empty then", x.about(2), 0);
        Looks.steps(x, 0, lines);
    }

    private static void longText(String text, int lines) {
        SkewedWays x = new SkewedWays();
        Looks.due("text of '" + text + "'", Looks.told(x, text), 0);
        Looks.due("fault(0) of '" + text + "'", x.fault(0), 0);
        Looks.due("length of '" + text + "'", x.length(0), lines);
        Looks.due("the last one of '" + text + "'", x.step(0, lines - 1) >= 0, true);
        Looks.due("none behind it", x.step(0, lines), -1);
    }

    private static void faulty(String text, int fault, int place) {
        SkewedWays x = new SkewedWays();
        Looks.told(x, "r7");
        Looks.due("text of '" + text + "'", Looks.told(x, text), -1);
        Looks.due("fault(0) of '" + text + "'", x.fault(0), fault);
        Looks.due("fault(1) of '" + text + "'", x.fault(1), place);
        Looks.due("about(0) of '" + text + "'", x.about(0), 1);
        Looks.due("about(2) of '" + text + "'", x.about(2), 0);
        Looks.due("length(1) of '" + text + "'", x.length(1), -1);
        Looks.steps(x, 0, 7);
    }

    private static void tape() {
        Looks.at("Twenty bytes come behind the tape; more than 300");
        SkewedWays x = new SkewedWays();
        Looks.due("about(2)", x.about(2), 0);
        for (int n = 20; n <= 300; n += 20) {
            Looks.due("feed", x.feed(BLANK, BLANK, BLANK, BLANK, BLANK), n);
        }
        Looks.due("feed", x.feed(BLANK, BLANK, BLANK, BLANK, BLANK), -1);
        Looks.due("about(2)", x.about(2), 300);
        for (int n = 299; n > 280; n--) {
            Looks.due("end", x.end(n), n);
            Looks.due("feed, there would be more than 300", x.feed(0, 0, 0, 0, 0), -1);
            Looks.due("and none come", x.about(2), n);
        }
        Looks.due("end", x.end(280), 280);
        Looks.due("feed, there are just 300", x.feed(BLANK, BLANK, BLANK, BLANK, BLANK), 300);
        Looks.due("text of blanks", x.text(), 0);
        Looks.due("length", x.length(0), 0);
        Looks.at("the highest of a first");
        x = new SkewedWays();
        x.feed(0x72 << 24 | 0x31 << 16 | 0x32 << 8 | 0x33, 0x20723420, BLANK, BLANK, 0x20207239);
        Looks.due("text", x.text(), 0);
        Looks.steps(x, 0, 123, 4, 9);
        x.feed(0x80000000, 0, 0, 0, 0);
        Looks.due("text", x.text(), -1);
        Looks.due("a byte of 128", x.fault(1), 0);
        x.feed(0xff723100, 0, 0, 0, 0);
        Looks.due("text", x.text(), -1);
        Looks.due("a byte of 255", x.fault(1), 0);
        x.feed(0x20FFFFFF, -1, -1, -1, -1);
        Looks.due("text", x.text(), -1);
        Looks.due("bytes of -1", x.fault(1), 1);
    }

    private static void ends() {
        Looks.at("The tape has its first n bytes alone; not so many, or n is below 0");
        SkewedWays x = new SkewedWays();
        Looks.due("end(0)", x.end(0), 0);
        Looks.due("end(1)", x.end(1), -1);
        Looks.due("end(-1)", x.end(-1), -1);
        x.feed(0x72312072, 0x32207233, 0x20723420, 0x72352072, 0x36207237);
        Looks.due("end(21)", x.end(21), -1);
        Looks.due("about(2)", x.about(2), 20);
        Looks.due("end(20)", x.end(20), 20);
        Looks.due("end(19)", x.end(19), 19);
        Looks.due("end(20)", x.end(20), -1);
        Looks.due("about(2)", x.about(2), 19);
        Looks.due("feed", x.feed(0x31322072, 0x39202020, BLANK, BLANK, BLANK), 39);
        Looks.due("end(24)", x.end(24), 24);
        Looks.due("text", x.text(), 0);
        Looks.steps(x, 0, 1, 2, 3, 4, 5, 6, 12, 9);
        Looks.due("end(0) behind it", x.end(0), 0);
        Looks.due("end(1) behind it", x.end(1), -1);
        Looks.due("text of nothing", x.text(), 1);
        Looks.steps(x, 1);
        Looks.due("fault(0)", x.fault(0), 0);
    }

    private static void fourTraces() {
        Looks.at("TRACES 0 .. 3; NONE: (the tape stays) there are 4");
        SkewedWays x = new SkewedWays();
        Looks.due("about(0)", x.about(0), 0);
        for (int trace = 0; trace < 4; trace++) {
            Looks.due("length ahead of it", x.length(trace), -1);
            Looks.due("text", Looks.told(x, "r" + trace), trace);
            Looks.due("about(0)", x.about(0), trace + 1);
            Looks.due("a text with a FAULT takes no number", Looks.told(x, "r"), -1);
            Looks.due("about(0)", x.about(0), trace + 1);
        }
        Looks.due("the latest FAULT that was read is of the one ahead", x.fault(0), 0);
        Looks.due("about(2)", x.about(2), 1);
        Looks.due("text", Looks.told(x, "r4 r"), -1);
        Looks.due("the tape stays", x.about(2), 4);
        Looks.due("text", x.text(), -1);
        Looks.due("the tape stays", x.about(2), 4);
        Looks.due("fault(0)", x.fault(0), 0);
        Looks.due("fault(1)", x.fault(1), -1);
        for (int trace = 0; trace < 4; trace++) {
            Looks.steps(x, trace, trace);
        }
        Looks.due("length(4)", x.length(4), -1);
        Looks.due("length(-1)", x.length(-1), -1);
        Looks.due("feed goes on behind it", x.feed(0, 0, 0, 0, 0), 24);
    }

    private static void threeHundred() {
        Looks.at("texts of up to 300 bytes");
        longText(Looks.many("r0 ", 100), 100);
        taken("r" + Looks.many("0", 298) + "1", 1);
        taken("r" + Looks.many("0", 295) + "1023", 1023);
        taken(Looks.many(" ", 298) + "r9", 9);
        taken("r9" + Looks.many("\n", 298), 9);
        longText(Looks.many("r1", 150), 150);
        longText(Looks.many("w1:1", 75), 75);
        faulty(Looks.many(" ", 299) + "x", 1, 299);
        faulty(Looks.many(" ", 299) + "r", 1, 300);
        faulty(Looks.many("r1 ", 99) + "r1)", 1, 299);
    }

    private static void eachByte() {
        Looks.at("TOKENS, blanks (32, 10) aside: digits, r w + * : ( ) (each)");
        for (int sign = 0; sign < 256; sign++) {
            String text = String.valueOf((char) sign);
            boolean blank = sign == 32 || sign == 10;
            boolean digit = sign >= 48 && sign <= 57;
            boolean begins = sign == 'r' || sign == 'w' || sign == '(';
            if (blank) {
                taken(text);
                taken("r1" + text, 1);
                taken("r" + text + "1", 1);
                taken(text + "r1", 1);
                faulty("r1" + text + "2", 1, 3);
            } else {
                faulty(text, 1, begins ? 1 : 0);
                faulty("r1 " + text, 1, begins || sign == '+' ? 4 : 3);
                faulty("w5" + text + "z", 1, digit || sign == ':' ? 3 : 2);
                faulty("r5+" + text + "z", 1, digit ? 4 : 3);
            }
            if (digit) {
                taken("r1" + text, 10 + sign - 48);
                taken("w" + text + ":" + text, sign - 48);
            }
        }
    }

    private static void numbers() {
        Looks.at("digits one behind the other (NUMBERS)");
        taken("r0", 0);
        taken("r00", 0);
        taken("r0000000000000000000000000000001023", 1023);
        faulty("r1 0", 1, 3);
        faulty("r1\n0", 1, 3);
        faulty("r1+0 1*2", 1, 5);
        taken("r\n1\n+\n2\n*\n3\n", 1, 3, 5);
        taken("  w  1  :  2  ", 1);
        taken("( r 1 ) 2", 1, 1);
        Looks.at("a NUMBER that isn't one of those told");
        String[] huge = {"10000", "99999", "100000", "1000000", "2147483647", "2147483648", "4294967295", "4294967296", "4294967297",
            "9223372036854775807", "9223372036854775808", "18446744073709551616", "18446744073709551617", Looks.many("9", 290)};
        for (String number : huge) {
            faulty("r" + number, 2, 1);
            faulty("w0:" + number, 2, 3);
            faulty("r0+1*" + number, 2, 5);
            faulty("(r1)" + number, 2, 4);
            faulty("r0+" + number + "*1", 2, 3);
            faulty(number, 1, 0);
        }
    }

    private static void numbersTold() {
        Looks.at("r LINE: 0 .. 1023");
        taken("r0", 0);
        taken("r1023", 1023);
        faulty("r1024", 2, 1);
        Looks.at("STEP 0 .. 1023");
        taken("r5+0*3", 5, 5, 5);
        taken("r5+1023*3", 5, 4, 3);
        faulty("r5+1024*3", 2, 3);
        Looks.at("COUNT 1 .. 99");
        taken("r5+7*1", 5);
        taken("r5+7*2", 5, 12);
        longText("r5+7*99", 99);
        faulty("r5+7*0", 2, 5);
        faulty("r5+7*00", 2, 5);
        faulty("r5+7*100", 2, 5);
        Looks.at("w LINE : VALUE (0 .. 9999)");
        taken("w0:0", 0);
        taken("w1023:9999", 1023);
        faulty("w1024:0", 2, 1);
        faulty("w0:10000", 2, 3);
        Looks.at("TIMES (1 .. 9)");
        taken("(r1 r2)1", 1, 2);
        taken("(r1 r2)9", 1, 2, 1, 2, 1, 2, 1, 2, 1, 2, 1, 2, 1, 2, 1, 2, 1, 2);
        faulty("(r1 r2)0", 2, 7);
        faulty("(r1 r2)10", 2, 7);
        faulty("(r1 r2)00", 2, 7);
        Looks.at("LINE, LINE and STEP, .., mod 1024");
        taken("r1023+1*2", 1023, 0);
        taken("r1022+1*2", 1022, 1023);
        taken("r0+512*4", 0, 512, 0, 512);
        taken("r1023+1023*4", 1023, 1022, 1021, 1020);
        SkewedWays x = new SkewedWays();
        Looks.told(x, "r1023+1023*99");
        for (int i = 0; i < 99; i++) {
            Looks.due("step(0, " + i + ")", x.step(0, i), 1023 - i);
        }
        Looks.due("writes", x.writes(0), 0);
    }

    private static void writesAndRuns() {
        Looks.at("w LINE : VALUE (WRITTEN; 0 .. 9999)");
        SkewedWays x = new SkewedWays();
        Looks.told(x, "w0:0 w1023:9999 r0 w1:1");
        Looks.due("writes", x.writes(0), 3);
        Looks.due("run", x.run(0), 3);
        Looks.due("value(1023)", x.value(1023), 9999);
        Looks.due("value(0)", x.value(0), 0);
        Looks.slot(x, 0, 0, 0, 0, 1, 0, 0);
        Looks.slot(x, 0, 3, 1023, 9999, 1, 2, 0);
        Looks.slot(x, 0, 1, 1, 1, 1, 2, 0);
    }

    private static void items() {
        Looks.at("A TRACE: {ITEM}");
        taken("");
        taken(" ");
        taken("\n");
        taken("r1r2w3:4r5+6*2(r7)2r8", 1, 2, 3, 5, 11, 7, 7, 8);
        Looks.at("( {ITEM} ) TIMES");
        taken("()1");
        taken("()9");
        taken("(()9()9)9");
        taken("( r1 ( r2 )2 )2", 1, 2, 2, 1, 2, 2);
        taken("((r1)2 r3)2(r4)1", 1, 1, 3, 1, 1, 3, 4);
        taken("((((r1)2)1)2)1", 1, 1, 1, 1);
        taken("(r1+1*2)2", 1, 2, 1, 2);
        taken("(w1:2)2", 1, 1);
        taken("(r1)2r3", 1, 1, 3);
        taken("(r1)2(r3)2", 1, 1, 3, 3);
        taken("r9(r1)2", 9, 1, 1);
    }

    private static void standing() {
        Looks.at("FAULT 1: it can't stand there (of the end at the length)");
        String[] open = {"r", "w", "(", "w1", "w1:", "r1+", "r1+2", "r1+2*", "(r1", "(r1)", "((r1)2", "(r1)2(", "r1 r", "(w1:2"};
        for (String text : open) {
            faulty(text, 1, text.length());
            faulty(text + " ", 1, text.length() + 1);
            faulty(text + " \n ", 1, text.length() + 3);
        }
        String[] behind = {"", "r1", "r1+2*3", "w1:2", "(r1)2"};
        String[] never = {"*", ":", ")", "3", "x", "\t"};
        for (String text : behind) {
            for (String sign : never) {
                // A digit behind a NUMBER is part of it, with a blank between them it is another one.
                faulty(text + " " + sign, 1, text.length() + 1);
            }
        }
        faulty("+", 1, 0);
        faulty("r1+2*3+", 1, 6);
        faulty("w1:2+", 1, 4);
        faulty("(r1)2+", 1, 5);
        faulty("(+", 1, 1);
        faulty("r1(+2*3)1", 1, 3);
        faulty("r1(*2)1", 1, 3);
        faulty("r1()1+2*3", 1, 5);
        String[] wanting = {"r", "w", "w1:", "r1+", "r1+2*", "(r1)"};
        for (String text : wanting) {
            for (String sign : new String[] {"r", "w", "+", "*", ":", "(", ")", "-", "."}) {
                faulty(text + sign + "5", 1, text.length());
            }
        }
        for (String sign : new String[] {"r", "w", "+", "*", "(", ")", " 5"}) {
            faulty("w1" + sign, 1, sign.equals(" 5") ? 3 : 2);
        }
        for (String sign : new String[] {"r", "w", "+", ":", "(", ")", " 5"}) {
            faulty("r1+2" + sign, 1, sign.equals(" 5") ? 5 : 4);
        }
    }

    private static void firstOfAll() {
        Looks.at("FAULTS, the first as TOKENS are come to");
        faulty("r1024 x", 2, 1);
        faulty("r1024x", 2, 1);
        faulty("x r1024", 1, 0);
        faulty("r 1 r 2000 r 3000", 2, 6);
        faulty("(((((r1024", 3, 4);
        faulty("r1024 (((((", 2, 1);
        faulty("((((r1024(", 2, 5);
        faulty("(r1)0 x", 2, 4);
        Looks.at("FAULTS, of one the least");
        faulty("5000", 1, 0);
        faulty("r1 5000", 1, 3);
        faulty("r1+1*1 5000", 1, 7);
        faulty("((((r(", 1, 5);
        faulty("((((w1:(", 1, 7);
        faulty("((((r1)(", 1, 7);
        faulty("((((r1+(", 1, 7);
        faulty("((((r1+1*(", 1, 9);
    }

    private static void fiveOpen() {
        Looks.at("FAULT 3: the 5th ( that is open within others");
        taken("((((r1)1)1)1)1", 1);
        taken("((((r1)1(r2)1)1)1)1", 1, 2);
        faulty("(((((r1)1)1)1)1)1", 3, 4);
        faulty("( ( ( ( (", 3, 8);
        faulty("((((r1)1(r2)1(r3)1((", 3, 19);
        faulty("((((r1)1)1((", 1, 12);
        faulty("((((r1)1)1(((", 3, 12);
        faulty("((((r1)1)1((r2)1(r3)1(r4)1)1)1)1(((( (", 3, 37);
        faulty("r1((((r1+1*2(", 3, 12);
        faulty("((((w1:2(", 3, 8);
    }

    private static void sixHundred() {
        Looks.at("FAULT 4 (at the length, if there is none else) more than 600 LINES");
        longText("(r0+1*99)6 r0+1*5", 599);
        longText("(r0+1*99)6 r0+1*6", 600);
        longText("r0+1*6(r0+1*99)6", 600);
        longText("(r0+1*99)6 (w1:2)6", 600);
        longText("(((r0+1*75)2)2)2", 600);
        longText("(r0+1*60 (r1+1*20)2)6", 600);
        longText("((((r0)5)5)4)6", 600);
        longText(Looks.many("r0+1*99", 6) + "r0r0r0r0r0r0", 600);
        faulty("(r0+1*99)6 r0+1*7", 4, 17);
        faulty("(r0+1*99)6 r0+1*6 r0", 4, 20);
        faulty("(r0+1*99)6 r0+1*6 w0:0", 4, 22);
        faulty("(r0+1*99)6 r0+1*6 w0:0 \n ", 4, 25);
        faulty("r0 (((r0+1*75)2)2)2", 4, 19);
        faulty("(((r0+1*75)2)2)2 r0", 4, 19);
        faulty("(((r0+1*76)2)2)2", 4, 16);
        faulty("((((r0)5)5)5)5", 4, 14);
        faulty("((((r0+1*99)9)9)9)9", 4, 19);
        faulty("((((w0:0)9)9)9)9", 4, 16);
        faulty(Looks.many("r0+1*99", 7), 4, 49);
        faulty("((r0+1*99)9)1 ()9 (w1:1)1", 4, 25);
        Looks.at("FAULT 4 is there if there is none else");
        faulty("((r0+1*99)9)9 x", 1, 14);
        faulty("((r0+1*99)9)9 r1024", 2, 15);
        faulty("((r0+1*99)9)9 r", 1, 15);
        faulty("((r0+1*99)9)9 (", 1, 15);
        faulty("((r0+1*99)9)9 (((((", 3, 18);
        faulty("((r0+1*99)9)0", 2, 12);
        faulty("((r0+1*99)9", 1, 11);
        faulty("((r0+1*99)9)", 1, 12);
        Looks.at("behind a text of more than 600 LINES");
        SkewedWays x = new SkewedWays();
        Looks.due("601", Looks.told(x, "(r0+1*99)6 r0+1*7"), -1);
        Looks.due("600", Looks.told(x, "(r0+1*99)6 r0+1*6"), 0);
        Looks.due("fault(0)", x.fault(0), 0);
        Looks.due("fault(1)", x.fault(1), -1);
        Looks.due("length", x.length(0), 600);
        Looks.due("step(0, 599)", x.step(0, 599), 5);
        Looks.due("step(0, 600)", x.step(0, 600), -1);
    }

    private static void behindFaults() {
        Looks.at("a text behind one with a FAULT is read from its first byte on");
        String[] bad = {"((((", "(((((", "(r1", "(", "r1+2*", "r1+2", "r", "w1:", "w1", "r1024", "((r1)2 r1", "(r1)", "r1 99999"};
        for (String text : bad) {
            SkewedWays x = new SkewedWays();
            Looks.due("text of '" + text + "'", Looks.told(x, text), -1);
            Looks.due("a good text behind it", Looks.told(x, "((((r1)1)1)1)2"), 0);
            Looks.steps(x, 0, 1, 1);
            Looks.due("text of '" + text + "'", Looks.told(x, text), -1);
            Looks.due("a good text behind it", Looks.told(x, "r5"), 1);
            Looks.steps(x, 1, 5);
            Looks.due("text of '" + text + "'", Looks.told(x, text), -1);
            Looks.due("no text behind it", x.text(), 2);
            Looks.steps(x, 2);
            Looks.due("text of '" + text + "'", Looks.told(x, text), -1);
            Looks.due("+ behind it", Looks.told(x, "+1*2"), -1);
            Looks.due("fault(0)", x.fault(0), 1);
            Looks.due("fault(1)", x.fault(1), 0);
            Looks.due("text of '" + text + "'", Looks.told(x, text), -1);
            Looks.due("a NUMBER behind it", Looks.told(x, "1"), -1);
            Looks.due("fault(1)", x.fault(1), 0);
            Looks.due("text of '" + text + "'", Looks.told(x, text), -1);
            Looks.due(") behind it", Looks.told(x, ")2"), -1);
            Looks.due("fault(1)", x.fault(1), 0);
        }
    }

    private static void latestFault() {
        Looks.at("Of the latest text that was read: 0 its FAULT (0 without), 1 its place (NONE without)");
        SkewedWays x = new SkewedWays();
        Looks.due("fault(0), ahead of any", x.fault(0), -1);
        Looks.due("fault(1), ahead of any", x.fault(1), -1);
        Looks.tape(x, "r1024");
        Looks.due("fault(0), ahead of any", x.fault(0), -1);
        Looks.due("text", x.text(), -1);
        Looks.due("fault(0)", x.fault(0), 2);
        Looks.due("fault(1)", x.fault(1), 1);
        Looks.due("fault(2)", x.fault(2), -1);
        Looks.due("fault(-1)", x.fault(-1), -1);
        Looks.due("text, the tape is empty", x.text(), 0);
        Looks.due("fault(0)", x.fault(0), 0);
        Looks.due("fault(1)", x.fault(1), -1);
        Looks.told(x, "(((((");
        Looks.due("fault(0)", x.fault(0), 3);
        Looks.due("fault(1)", x.fault(1), 4);
        x.ask(1);
        x.undo();
        x.image();
        x.back();
        Looks.due("fault(0) stays", x.fault(0), 3);
        Looks.due("fault(1) stays", x.fault(1), 4);
    }

    public static void main(String[] args) {
        tape();
        ends();
        fourTraces();
        threeHundred();
        eachByte();
        numbers();
        numbersTold();
        writesAndRuns();
        items();
        standing();
        firstOfAll();
        fiveOpen();
        sixHundred();
        behindFaults();
        latestFault();
        Looks.close();
    }
}
