/**
 * Promises 16 to 28: what is read from scans. Rows of widths are told in modules (q is a space of
 * 50 modules), so that they can be compared with sections 1 to 3 of the document.
 */
public final class ReadingsTest {
    private static final String LEFT = "111 2221 2122 1411 1132";
    private static final String RIGHT = "1231 1114 1312 3211 111";
    private static final String EAN = LEFT + "11111" + RIGHT;

    public static void main(String[] args) {
        noScan();
        wholeEan();
        eanDigits();
        eanEdges();
        wholePairs();
        pairEdges();
        wholeCodabar();
        codabarEdges();
        confidences();
        directions();
        eanParts();
        pairParts();
        codabarParts();
        firstAndLast();
        agreement();
        overlap();
        moduleAndSpread();
        merged();
        bestScan();
        Checks.end("ReadingsTest");
    }

    private static String backwards(String modules) {
        return Checks.backwards(modules);
    }

    private static String seen(BarcodeEngine x, int scan, int symbology) {
        return Checks.seen(x, scan, symbology);
    }

    private static void sees(int symbology, String modules, String want) {
        Checks.sees(symbology, modules, want);
    }

    /** The indices of all reading calls. */
    private static void noScan() {
        BarcodeEngine x = new BarcodeEngine();
        Checks.print(x, 0, "12345670");
        Checks.print(x, 0, "12345670");
        x.cut(1, 0, 20);
        int[][] wrong = {{-1, 0}, {2, 0}, {0, -1}, {0, 3}, {24, 1}, {Integer.MIN_VALUE, 0},
            {0, Integer.MAX_VALUE}, {Integer.MAX_VALUE, Integer.MIN_VALUE}};
        for (int[] w : wrong) {
            int scan = w[0];
            int s = w[1];
            String what = " of " + scan + ", " + s;
            Checks.index("read" + what, () -> x.read(scan, s));
            Checks.index("readPart" + what, () -> x.readPart(scan, s, true));
            Checks.index("character" + what, () -> x.character(scan, s, 0));
            Checks.index("confidence" + what, () -> x.confidence(scan, s, 0));
            Checks.index("partCharacter" + what, () -> x.partCharacter(scan, s, false, 0));
            Checks.index("isReversed" + what, () -> x.isReversed(scan, s) ? 1 : 0);
            Checks.index("agreement" + what, () -> x.agreement(scan, 0, s));
            Checks.index("agreement" + what, () -> x.agreement(0, scan, s));
            Checks.index("overlap" + what, () -> x.overlap(scan, 0, s));
            Checks.index("overlap" + what, () -> x.overlap(1, scan, s));
            Checks.index("module" + what, () -> x.module(scan, s));
            Checks.index("spread" + what, () -> x.spread(scan, s));
            Checks.index("mergedLength" + what, () -> x.mergedLength(scan, 0, s));
            Checks.index("mergedLength" + what, () -> x.mergedLength(1, scan, s));
            Checks.index("mergedCharacter" + what, () -> x.mergedCharacter(scan, 1, s, 0));
            Checks.index("mergedCharacter" + what, () -> x.mergedCharacter(1, scan, s, 0));
        }
        for (int place : new int[] {-1, 8, 16, Integer.MIN_VALUE, Integer.MAX_VALUE}) {
            Checks.index("character at " + place, () -> x.character(0, 0, place));
            Checks.index("confidence at " + place, () -> x.confidence(0, 0, place));
        }
        for (int place : new int[] {-1, 4, 16, Integer.MIN_VALUE, Integer.MAX_VALUE}) {
            Checks.index("partCharacter at " + place, () -> x.partCharacter(1, 0, false, place));
        }
        Checks.index("character of no code", () -> x.character(1, 0, 0));
        Checks.index("confidence of no code", () -> x.confidence(1, 0, 0));
        Checks.index("partCharacter of no tail", () -> x.partCharacter(1, 0, true, 0));
        Checks.index("partCharacter of a whole code", () -> x.partCharacter(0, 0, false, 0));
        Checks.element("module of no code", () -> x.module(1, 0));
        Checks.element("spread of no code", () -> x.spread(0, 1));
    }

    // Promises 16, 18, 19, 21
    private static void wholeEan() {
        BarcodeEngine x = new BarcodeEngine();
        Checks.scan(x, "q" + EAN + "q", 10);
        Checks.due("read", x.read(0, 0), 8);
        for (int i = 0; i < 8; i++) {
            Checks.due("character", x.character(0, 0, i), "12345670".charAt(i));
            Checks.due("confidence", x.confidence(0, 0, i), 100);
        }
        Checks.due("isReversed", x.isReversed(0, 0), false);
        Checks.due("readPart of a whole code", x.readPart(0, 0, false), 0);
        Checks.due("readPart of a whole code", x.readPart(0, 0, true), 0);
        Checks.due("read", x.read(0, 1), 0);
        Checks.due("read", x.read(0, 2), 0);
        Checks.due("isReversed of nothing", x.isReversed(0, 2), false);
        sees(0, "q1111", "");
        sees(0, "q11", "");
    }

    /** One digit of four widths in place of the first one, or what is read instead. */
    private static void digit(String widths, String want) {
        sees(0, "q111" + widths + "2122 1411 1132 11111" + RIGHT + "q", want);
    }

    private static void eanDigits() {
        String[] widths = {"3211", "2221", "2122", "1411", "1132", "1231", "1114", "1312", "1213", "3112"};
        for (int i = 0; i < 10; i++) {
            digit(widths[i], i + "2345670");
        }
        BarcodeEngine x = new BarcodeEngine();
        Checks.scan(x, "q" + EAN + "q", 10);
        // With S = 14, e is (a + b) / 2 and f is (b + c) / 2; the bound for a + c is 6.
        set(x, 4, 3, 5, 3, 3);
        Checks.same("e = 4, f = 4, 7 * (a + c) = 3 * S", seen(x, 0, 0), "12345670");
        set(x, 4, 2, 6, 2, 4);
        Checks.same("e = 4, f = 4, 7 * (a + c) < 3 * S", seen(x, 0, 0), "72345670");
        set(x, 4, 3, 3, 3, 5);
        Checks.same("e = 3, f = 3, 7 * (a + c) = 3 * S", seen(x, 0, 0), "22345670");
        set(x, 4, 2, 4, 2, 6);
        Checks.same("e = 3, f = 3, 7 * (a + c) < 3 * S", seen(x, 0, 0), "82345670");
        set(x, 4, 2, 5, 2, 5);
        Checks.same("e = 3.5, f = 3.5, rounded upwards", seen(x, 0, 0), "72345670");
        Checks.due("its confidence", x.confidence(0, 0, 0), 0);
        set(x, 4, 3, 4, 2, 5);
        Checks.same("e = 3.5, f = 3", seen(x, 0, 0), "~5670");
        set(x, 4, 1, 1, 1, 1);
        Checks.same("e = 3.5, f = 3.5, 7 * (a + c) > 3 * S", seen(x, 0, 0), "12345670");
    }

    private static void set(BarcodeEngine x, int index, int... widths) {
        for (int i = 0; i < widths.length; i++) {
            x.setWidth(0, index + i, widths[i]);
        }
    }

    private static void eanEdges() {
        sees(0, "5" + EAN + "5", "12345670");
        sees(0, "4" + EAN + "5", "~5670");
        sees(0, "5" + EAN + "4", "1234~");
        sees(0, "4" + EAN + "4", "");
        // The quiet zone counts for the least width of the start or stop.
        sees(0, "5 121" + EAN.replace(" ", "").substring(3) + "5", "12345670");
        sees(0, "5" + EAN.replace(" ", "").substring(0, 40) + "112 5", "12345670");
        sees(0, "9 222" + EAN.replace(" ", "").substring(3) + "5", "~5670");
        sees(0, "q 131" + EAN.replace(" ", "").substring(3) + "5", "~5670");
        sees(0, "q" + EAN.replace(" ", "").substring(0, 40) + "113 q", "1234~");
        // The middle: even up to twice the least.
        sees(0, "q" + LEFT + "12121" + RIGHT + "q", "12345670");
        sees(0, "q" + LEFT + "11311" + RIGHT + "q", "1234~5670");
        BarcodeEngine x = new BarcodeEngine();
        Checks.scan(x, "q" + LEFT + "12121" + RIGHT + "q", 10);
        x.setWidth(0, 21, 21);
        Checks.same("a middle not even", seen(x, 0, 0), "1234~5670");
        x.setWidth(0, 21, 10);
        x.setWidth(0, 2, 21);
        Checks.same("a start not even", seen(x, 0, 0), "~5670");
        x.setWidth(0, 2, 20);
        Checks.same("an even start", seen(x, 0, 0), "12345670");
        x.setWidth(0, 0, 49);
        Checks.same("no quiet zone", seen(x, 0, 0), "~5670");
        x.setWidth(0, 0, 50);
        x.setWidth(0, 44, 49);
        Checks.same("no quiet zone", seen(x, 0, 0), "1234~");
        x.setWidth(0, 44, 50);
        Checks.same("quiet zones", seen(x, 0, 0), "12345670");
        // Seven digits, or an unreadable one, are no whole code.
        sees(0, "q" + LEFT + "11111 1231 1114 1312 111q", "1234~1567");
        digit("1141", "~5670");
        sees(0, "q111 2221 1141 1411 1132 11111 1231 1141 1312 3211 111 q", "~70");
    }

    private static void wholePairs() {
        String one = "1111 3131111313 311";
        sees(1, "q" + one + "q", "37");
        sees(1, "q 1111 3113111133 311 q", "12");
        sees(1, "q 1111 1131311313 311 q", "67");
        sees(1, "q" + backwards("1111 3113111133 311") + "q", "<12");
        for (int digits = 2; digits <= 14; digits += 2) {
            BarcodeEngine x = new BarcodeEngine();
            String text = "90817263544536".substring(0, digits);
            Checks.print(x, 1, text);
            Checks.due("read", x.read(0, 1), digits);
            Checks.same("whole", Checks.whole(x, 0, 1), text);
        }
        // As few pairs as possible: 12, a stop, and the pair 19 with the stop in it, another stop.
        sees(1, "q 1111 3113111133 311 5 111 5 3 1 3 1 1 q", "12");
        sees(1, "q 1111 3113111133 311 4 111 4 3 1 3 1 1 q", "1219");
        // No pair at all is no code.
        sees(1, "q 1111 311 q", "");
        // Eight pairs are no whole code, but a head and a tail of seven.
        String eight = "q 1111" + "3113111133".repeat(6) + "1131311313 1333111131" + "311 q";
        sees(1, eight, "12121212121267~12121212126723");
        sees(1, "q 1111" + "3113111133".repeat(7) + "311 q", "12121212121212");
    }

    private static void pairEdges() {
        sees(1, "5 1111 3113111133 311 5", "12");
        sees(1, "4 1111 3113111133 311 5", "~12");
        sees(1, "5 1111 3113111133 311 4", "12~");
        sees(1, "5 2121 3113111133 311 5", "12");
        sees(1, "q 1131 3113111133 311 q", "~12");
        sees(1, "q 1113 3113111133 311 q", "~12");
        sees(1, "q 2222 3113111133 933 q", "12");
        // A stop: 2 * x >= 3 * y and 2 * x >= 3 * z.
        sees(1, "q 1111 3113111133 322 q", "12");
        sees(1, "q 1111 3113111133 422 q", "12");
        sees(1, "q 1111 3113111133 532 q", "12");
        sees(1, "q 1111 3113111133 432 q", "12~");
        sees(1, "q 1111 3113111133 423 q", "12~");
        sees(1, "5 1111 3113111133 621 5", "12");
        sees(1, "5 1111 3113111133 612 5", "12");
        sees(1, "5 1111 3113111133 622 9", "12~");
        // A pair is not read if one of its digits is not: 3 wide bars, then 3 wide spaces.
        sees(1, "q 1111 3113111133 3131311133 311 q", "12~");
        sees(1, "q 1111 3113111133 3113131133 311 q", "12~");
        // The end of the start may be the last space, but nothing is read behind it.
        sees(1, "q 111 1", "");
    }

    private static final String A = "1133131";
    private static final String B = "1313113";
    private static final String C = "1113133";
    private static final String D = "1113331";

    private static void wholeCodabar() {
        String one = "1111331";
        sees(2, "q" + A + 1 + one + 1 + B + "q", "A1B");
        sees(2, "q" + C + 1 + one + 1 + one + 1 + D + "q", "C11D");
        // Gaps of any width.
        sees(2, "q" + C + 9 + one + "q" + one + 2 + D + "q", "C11D");
        sees(2, "q" + backwards(A + 3 + one + 4 + B) + "q", "<A1B");
        // A letter ends a code; none without a character inside.
        sees(2, "q" + A + 1 + B + "q", "");
        sees(2, "q" + A + 1 + one + 1 + B + 1 + one + 1 + C + "q", "A1~1C");
        sees(2, "q" + A + 1 + one + 1 + B + "5" + one + 1 + C + "q", "A1B");
        String all = "0123456789-$:/.+";
        for (int i = 0; i < 16; i++) {
            BarcodeEngine x = new BarcodeEngine();
            String text = "" + "ABCD".charAt(i % 4) + all.charAt(i) + "ABCD".charAt(i / 4);
            Checks.print(x, 2, text);
            Checks.same("whole", Checks.whole(x, 0, 2), text);
        }
        BarcodeEngine x = new BarcodeEngine();
        Checks.print(x, 2, "A12345678901234B");
        Checks.due("16 characters", x.read(0, 2), 16);
    }

    private static void codabarEdges() {
        String code = A + "1 1111331 1" + B;
        sees(2, "5" + code + "5", "A1B");
        sees(2, "4" + code + "5", "~1B");
        sees(2, "5" + code + "4", "A1~");
        sees(2, "4" + code + "4", "");
        // Narrow or wide: 2 * hi < 3 * lo can't be read, 2 * w > lo + hi is wide.
        String digit = "1111331";
        BarcodeEngine x = new BarcodeEngine();
        Checks.scan(x, "q" + A + 1 + digit + 1 + B + "q", 10);
        set(x, 9, 10, 10, 10, 10, 15, 15, 10);
        Checks.same("2 * hi = 3 * lo", seen(x, 0, 2), "A1B");
        set(x, 9, 10, 10, 10, 10, 14, 14, 10);
        Checks.same("2 * hi < 3 * lo", seen(x, 0, 2), "");
        set(x, 9, 10, 10, 10, 10, 30, 21, 20);
        Checks.same("2 * w > lo + hi", seen(x, 0, 2), "A1B");
        set(x, 9, 10, 10, 10, 10, 30, 20, 20);
        Checks.same("no such character", seen(x, 0, 2), "");
        set(x, 9, 10, 10, 10, 10, 30, 20, 21);
        Checks.same("no such character", seen(x, 0, 2), "");
        // The least width of the start or stop counts for the quiet zone, though not the first one.
        set(x, 9, 10, 10, 10, 10, 30, 30, 10);
        set(x, 0, 49, 10, 10, 30, 30, 9, 30, 10);
        Checks.same("a quiet zone for 9", seen(x, 0, 2), "A1B");
        set(x, 0, 44);
        Checks.same("none for 9", seen(x, 0, 2), "~1B");
        set(x, 8, 5);
        Checks.same("the gap is no width of the start", seen(x, 0, 2), "~1B");
        set(x, 0, 45);
        set(x, 16, 5);
        set(x, 24, 49);
        Checks.same("the gap is no width of the stop", seen(x, 0, 2), "A1~");
    }

    // Promise 19
    private static void confidences() {
        BarcodeEngine x = new BarcodeEngine();
        Checks.scan(x, "q" + EAN + "q", 10);
        // S = 69, a + b = 39, b + c = 40: e = 4, f = 4, r = max(|273 - 276|, |280 - 276|) = 4.
        set(x, 4, 19, 20, 20, 10);
        Checks.due("100 - 800 / 69", x.confidence(0, 0, 0), 89);
        // S = 75, a + b = 40, b + c = 45: e = 4, f = 4, r = max(20, 15) = 20.
        set(x, 4, 20, 20, 25, 10);
        Checks.due("100 - 4000 / 75", x.confidence(0, 0, 0), 47);
        Checks.same("still a code", seen(x, 0, 0), "12345670");
        Checks.due("the next one", x.confidence(0, 0, 1), 100);
        BarcodeEngine y = new BarcodeEngine();
        Checks.scan(y, "q 1111 3113111133 311 q", 10);
        Checks.due("150 * 20 / 30", y.confidence(0, 1, 0), 100);
        set(y, 5, 29);
        Checks.due("150 * 19 / 29", y.confidence(0, 1, 0), 98);
        Checks.due("of the spaces", y.confidence(0, 1, 1), 100);
        set(y, 6, 12);
        Checks.due("of the bars", y.confidence(0, 1, 0), 98);
        Checks.due("150 * 18 / 30", y.confidence(0, 1, 1), 90);
        set(y, 7, 14);
        Checks.due("150 * 15 / 29", y.confidence(0, 1, 0), 77);
        set(y, 5, 90);
        set(y, 13, 60);
        Checks.due("150 * 46 / 60", y.confidence(0, 1, 0), 100);
        BarcodeEngine z = new BarcodeEngine();
        Checks.scan(z, "q" + A + "1 1111331 1" + B + "q", 10);
        set(z, 3, 28);
        Checks.due("150 * 18 / 28", z.confidence(0, 2, 0), 96);
        set(z, 9, 16);
        Checks.due("150 * 14 / 30", z.confidence(0, 2, 1), 70);
        set(z, 23, 23);
        Checks.due("150 * 13 / 23", z.confidence(0, 2, 2), 84);
    }

    // Promise 21
    private static void directions() {
        String other = "111 1312 1312 1312 1312 11111 1312 1312 1312 1312 111";
        // Two codes: the first beginning counts, in reverse the first one of the reversed row.
        sees(0, "q" + EAN + "q" + other + "q", "12345670");
        sees(0, "q" + other + "q" + EAN + "q", "77777777");
        sees(0, "q" + backwards(EAN) + "q" + backwards(other) + "q", "<77777777");
        // As it is before in reverse, a whole code before parts.
        sees(0, "q" + backwards(other) + "q" + EAN + "q", "12345670");
        sees(0, "q" + LEFT + "q" + backwards(other) + "q", "<77777777");
        sees(0, "q" + LEFT + "q" + backwards(LEFT) + "q", "1234~");
        sees(0, "q" + backwards(LEFT) + "q", "<1234~");
        sees(0, "q" + backwards(RIGHT) + "q", "<~5670");
        sees(0, "q" + backwards(RIGHT) + "q" + backwards(LEFT) + "q", "<1234~5670");
        sees(0, "q" + backwards(LEFT) + "q" + RIGHT + "q", "~5670");
        BarcodeEngine x = new BarcodeEngine();
        Checks.scan(x, "q" + backwards(EAN) + "q", 10);
        Checks.same("in reverse", Checks.whole(x, 0, 0), "12345670");
        x.reverse(0);
        Checks.due("as it is", x.isReversed(0, 0), false);
        // Other symbologies are read for themselves.
        BarcodeEngine y = new BarcodeEngine();
        Checks.scan(y, "q" + EAN + "q" + backwards("1111 3113111133 311") + "q" + A + "1 1111331 1" + B + "q", 10);
        Checks.same("EAN-8", seen(y, 0, 0), "12345670");
        Checks.same("Interleaved", seen(y, 0, 1), "<12");
        Checks.same("Codabar", seen(y, 0, 2), "A1B");
    }

    // Promises 17, 20
    private static void eanParts() {
        sees(0, "q 111 2221 2122 q", "12~");
        sees(0, "q 111 2221 1", "");
        sees(0, "q 111 2221 2122 1", "12~");
        sees(0, "q 111 2221 2122 1411 2", "123~");
        sees(0, "q" + LEFT + "11111", "1234~");
        sees(0, "q" + LEFT + "1231 1114 1", "1234~");
        sees(0, "q 1312 3211 111 q", "~70");
        sees(0, "1 3211 111 q", "");
        sees(0, "1 1114 1312 3211 111 q", "~670");
        sees(0, "1 1312 1231 1114 1312 3211 111 q", "~5670");
        // From the end back to the last digit that cannot be read.
        sees(0, "1 1231 1141 1312 3211 111 q", "~70");
        // From the beginning up to the first one that cannot.
        sees(0, "q 111 2221 2122 1141 1132 11111", "12~");
        BarcodeEngine x = new BarcodeEngine();
        Checks.print(x, 0, "12345670");
        x.cut(0, 0, 20);
        Checks.due("head", x.readPart(0, 0, false), 4);
        Checks.due("tail", x.readPart(0, 0, true), 0);
        Checks.due("whole", x.read(0, 0), 0);
        for (int i = 0; i < 4; i++) {
            Checks.due("partCharacter", x.partCharacter(0, 0, false, i), '1' + i);
        }
        x.cut(0, 0, 10);
        Checks.same("a head cut at a digit", seen(x, 0, 0), "");
    }

    private static void pairParts() {
        sees(1, "q 1111 3113111133 q1", "12~");
        sees(1, "q 1111 3113111133", "12~");
        sees(1, "q 1111 31131111", "");
        sees(1, "q 1111 3113111133 1333111131 1111", "1223~");
        sees(1, "2 3113111133 311 q", "~12");
        sees(1, "2 1 1 1 1 1133 1333111131 311 q", "~23");
        sees(1, "2 3113111133 1333111131 311 q", "~1223");
        BarcodeEngine x = new BarcodeEngine();
        Checks.print(x, 1, "12345678");
        x.cut(0, 0, 24);
        Checks.due("head", x.readPart(0, 1, false), 4);
        Checks.due("partCharacter", x.partCharacter(0, 1, false, 3), '4');
        Checks.print(x, 1, "12345678");
        x.cut(1, 24, 48);
        Checks.due("tail", x.readPart(1, 1, true), 4);
        Checks.due("partCharacter", x.partCharacter(1, 1, true, 0), '5');
    }

    private static void codabarParts() {
        String one = "1111331";
        sees(2, "q" + A + 1 + one + "q", "A1~");
        sees(2, "q" + A + 1 + one + 1 + one + "4", "A11~");
        sees(2, "q" + A + 1 + one + 1 + "1111111" + "4", "A1~");
        sees(2, "q" + A + "q" + "111" + "5", "");
        sees(2, "4" + one + 1 + B + "q", "~1B");
        sees(2, "4" + one + 1 + one + 1 + B + "q", "~11B");
        sees(2, "4" + one + 1 + "1111111" + 1 + one + 1 + B + "q", "~1B");
        sees(2, "4" + B + "q", "");
        // 15 characters behind a start, or in front of a stop: one too many.
        String inner = "";
        for (int i = 0; i < 15; i++) {
            inner += i == 14 ? "1113113" : i == 0 ? "1131131" : one;
            inner += i == 14 ? "" : "1";
        }
        sees(2, "q" + A + 1 + inner + "q", "A41111111111111~");
        sees(2, "q" + inner + 1 + B + "q", "~11111111111112B");
        BarcodeEngine x = new BarcodeEngine();
        Checks.print(x, 2, "A1234B");
        x.cut(0, 0, 32);
        Checks.due("head", x.readPart(0, 2, false), 4);
        Checks.due("partCharacter", x.partCharacter(0, 2, false, 0), 'A');
        Checks.due("partCharacter", x.partCharacter(0, 2, false, 3), '3');
    }

    private static void firstAndLast() {
        // The first beginning whose head has at least 2 characters; the last such end.
        sees(0, "q 111 2221 q 111 1411 1132 q 111 2221 2122 1411 q", "34~");
        sees(0, "q 1114 1312 3211 111 q 1231 1114 111 q 1312 111 q", "~56");
        sees(2, "q" + A + "q" + B + "1 1111331 q" + C + "1 1111331 1 1111331 q", "B1~");
        sees(2, "q 1111331 1 1111331 1" + A + "q 1111331 1" + B + "q" + C + "q", "~1B");
        // A head and a tail of one row, and a whole code between them that does not begin there.
        sees(0, "q" + LEFT + "q" + RIGHT + "q", "1234~5670");
        sees(0, "q" + LEFT + "q" + EAN + "q", "12345670");
    }

    // Promise 22
    private static void agreement() {
        BarcodeEngine x = new BarcodeEngine();
        Checks.print(x, 0, "12345670");
        Checks.print(x, 0, "12395671");
        Checks.print(x, 0, "98712456");
        Checks.print(x, 1, "1234");
        Checks.print(x, 1, "123456");
        Checks.print(x, 2, "A1B");
        Checks.print(x, 2, "A1C");
        Checks.print(x, 1, "1244");
        x.reverse(7);
        Checks.due("itself", x.agreement(0, 0, 0), 8);
        Checks.due("two places differ", x.agreement(0, 1, 0), 6);
        Checks.due("two places differ", x.agreement(1, 0, 0), 6);
        Checks.due("all places differ", x.agreement(0, 2, 0), 0);
        Checks.due("no code", x.agreement(0, 3, 0), -1);
        Checks.due("no code", x.agreement(3, 0, 0), -1);
        Checks.due("no codes", x.agreement(0, 1, 1), -1);
        Checks.due("other length", x.agreement(3, 4, 1), -1);
        Checks.due("in reverse", x.agreement(3, 7, 1), 3);
        Checks.due("letters count", x.agreement(5, 6, 2), 2);
    }

    // Promise 23
    private static void overlap() {
        BarcodeEngine x = new BarcodeEngine();
        int h = Checks.head(x, "121212");
        int t = Checks.tail(x, "1212");
        int u = Checks.tail(x, "2134");
        int v = Checks.tail(x, "34");
        int w = Checks.print(x, 1, "34");
        int b = Checks.scan(x, "q 1111 3113111133 1333111131 99 3113111133 1333111131 311 q", 10);
        Checks.same("a head", seen(x, h, 1), "121212~");
        Checks.same("a tail", seen(x, u, 1), "~2134");
        Checks.same("both", seen(x, b, 1), "1223~1223");
        Checks.due("overlap of the whole tail", x.overlap(h, t, 1), 4);
        Checks.due("overlap of 1", x.overlap(h, u, 1), 1);
        Checks.due("overlap of 0", x.overlap(h, v, 1), 0);
        Checks.due("no head", x.overlap(t, u, 1), -1);
        Checks.due("no tail", x.overlap(h, h, 1), -1);
        Checks.due("a whole code is no tail", x.overlap(h, w, 1), -1);
        Checks.due("a whole code is no head", x.overlap(w, t, 1), -1);
        Checks.due("of the same scan", x.overlap(b, b, 1), 4);
        Checks.due("in another symbology", x.overlap(h, t, 0), -1);
        int c = Checks.codabarHead(x, "A1231");
        int d = Checks.codabarTail(x, "123B");
        int e = Checks.codabarTail(x, "2312B");
        Checks.due("greatest overlap", x.overlap(c, d, 2), 1);
        Checks.due("greatest overlap", x.overlap(c, e, 2), 3);
        int f = Checks.codabarHead(x, "C23123");
        Checks.due("greatest overlap", x.overlap(f, e, 2), 2);
        Checks.due("greatest overlap", x.overlap(f, d, 2), 3);
    }

    // Promises 24, 25
    private static void moduleAndSpread() {
        BarcodeEngine x = new BarcodeEngine();
        for (int module = 4; module <= 40; module += 9) {
            int scan = Checks.print(x, 0, "12345670", module, 0, 0);
            Checks.due("module", x.module(scan, 0), 100 * module);
            Checks.due("spread", x.spread(scan, 0), 0);
        }
        int a = Checks.print(x, 1, "1234", 10, 0, 0);
        Checks.due("module", x.module(a, 1), 1000);
        int b = Checks.print(x, 2, "A1B", 10, 0, 0);
        Checks.due("module", x.module(b, 2), 1000);
        Checks.due("spread", x.spread(b, 2), 0);
        // Interleaved 2 of 5 with 4 digits: 27 widths, 14 of them bars; T = 45, U = 24.
        int c = Checks.print(x, 1, "1234", 10, 2, 0);
        Checks.due("module: 100 * 452 / 45", x.module(c, 1), 1004);
        Checks.due("spread: 100 * (268 * 45 - 452 * 24) / (14 * 45)", x.spread(c, 1), 192);
        int d = Checks.print(x, 1, "1234", 10, -2, 0);
        Checks.due("module: 100 * 448 / 45", x.module(d, 1), 995);
        Checks.due("spread: 100 * (212 * 45 - 448 * 24) / (14 * 45), downwards", x.spread(d, 1), -193);
        // Codabar A1B: modules 13 + 1 + 11 + 1 + 13 = 39, bars 1 3 1 1, 1 1 3 1, 1 1 1 3: 18 in 12 bars.
        int e = Checks.print(x, 2, "A1B", 10, 1, 0);
        Checks.due("module: 100 * 391 / 39", x.module(e, 2), 1002);
        Checks.due("spread: 100 * (192 * 39 - 391 * 18) / (12 * 39)", x.spread(e, 2), 96);
        x.setWidth(e, 8, 100);
        Checks.due("a gap has 1: 100 * 482 / 39", x.module(e, 2), 1235);
        Checks.due("spread: 100 * (192 * 39 - 482 * 18) / (12 * 39)", x.spread(e, 2), -254);
        x.reverse(e);
        Checks.due("in reverse", x.module(e, 2), 1235);
        Checks.due("in reverse", x.spread(e, 2), -254);
        // EAN-8 12345670: T = 67, 43 widths, 22 of them bars.
        int f = Checks.print(x, 0, "12345670", 10, 2, 0);
        Checks.due("module: 100 * 672 / 67", x.module(f, 0), 1002);
        Checks.due("spread", x.spread(f, 0), 195);
        // The quiet zones and what is in front of and behind the code don't count.
        int g = Checks.scan(x, "4 333 q 1111 3113111133 311 q 222 4", 10);
        Checks.due("module", x.module(g, 1), 1000);
        Checks.due("spread", x.spread(g, 1), 0);
        x.reverse(g);
        Checks.due("module", x.module(g, 1), 1000);
        Checks.due("spread", x.spread(g, 1), 0);
        wideSpread();
    }

    private static void wideSpread() {
        // Widths of thousands.
        BarcodeEngine y = new BarcodeEngine();
        int scan = Checks.print(y, 2, "A12345678901234B", 40, 0, 0);
        for (int i = 1; i < y.widthCount(scan) - 1; i++) {
            y.setWidth(scan, i, y.width(scan, i) / 40 * (i % 2 == 1 ? 3000 : 2000));
        }
        y.setWidth(scan, 0, 10000);
        y.setWidth(scan, y.widthCount(scan) - 1, 10000);
        Checks.due("a great code", y.read(scan, 2), 16);
        long b = 0;
        long w = 0;
        for (int i = 1; i < y.widthCount(scan) - 1; i++) {
            w += y.width(scan, i);
            b += i % 2 == 1 ? y.width(scan, i) : 0;
        }
        long u = b / 3000;
        long t = u + (w - b) / 2000;
        Checks.due("great module", y.module(scan, 2), 100 * w / t);
        Checks.due("great spread", y.spread(scan, 2), Math.floorDiv(100 * (b * t - w * u), 64 * t));
    }

    // Promises 26, 27
    private static void merged() {
        BarcodeEngine x = new BarcodeEngine();
        int h = Checks.scan(x, "q" + LEFT + "1", 10);
        int t = Checks.scan(x, "1" + RIGHT + "q", 10);
        int three = Checks.scan(x, "q 111 2221 2122 1411 2", 10);
        int small = Checks.scan(x, "2 1114 1312 3211 111 q", 10);
        int both = Checks.scan(x, "q" + LEFT + "q" + RIGHT + "q", 10);
        Checks.due("EAN-8", x.mergedLength(h, t, 0), 8);
        Checks.same("EAN-8", merged(x, h, t, 0), "12345670");
        Checks.due("of the same scan", x.mergedLength(both, both, 0), 8);
        Checks.due("a head of 3", x.mergedLength(three, t, 0), 0);
        Checks.due("a tail of 3", x.mergedLength(h, small, 0), 0);
        Checks.due("no head", x.mergedLength(t, t, 0), 0);
        Checks.due("no tail", x.mergedLength(h, h, 0), 0);
        Checks.index("no code", () -> x.mergedCharacter(h, small, 0, 0));
        for (int place : new int[] {-1, 8, Integer.MIN_VALUE, Integer.MAX_VALUE}) {
            Checks.index("place " + place, () -> x.mergedCharacter(h, t, 0, place));
        }
        BarcodeEngine y = new BarcodeEngine();
        int a = Checks.head(y, "123456");
        int b = Checks.tail(y, "345678");
        int c = Checks.tail(y, "6789");
        int d = Checks.tail(y, "5678");
        Checks.same("overlap of 4", merged(y, a, b, 1), "12345678");
        Checks.same("overlap of 2", merged(y, a, d, 1), "12345678");
        Checks.due("overlap of 1 is too little", y.mergedLength(a, c, 1), 0);
        int e = Checks.head(y, "121212");
        int f = Checks.tail(y, "121212");
        Checks.same("overlap of 6", merged(y, e, f, 1), "121212");
        // An odd overlap would make an odd length: 12121 is no code, 11 would be with 2.
        int g = Checks.head(y, "1111");
        int i = Checks.tail(y, "111111");
        Checks.same("overlap of 4", merged(y, g, i, 1), "111111");
        int j = Checks.head(y, "9111");
        Checks.same("overlap of 2, not of 3", merged(y, j, i, 1), "91111111");
        int k = Checks.head(y, "12345678901234");
        int l = Checks.tail(y, "34567890");
        int m = Checks.tail(y, "345678");
        Checks.due("length 20 is none", y.mergedLength(k, l, 1), 0);
        Checks.due("length 18 is none", y.mergedLength(k, m, 1), 0);
        int n = Checks.tail(y, "90123456");
        Checks.due("length 16 is none", y.mergedLength(k, n, 1), 0);
        int o = Checks.tail(y, "901234");
        Checks.same("length 14", merged(y, k, o, 1), "12345678901234");
        Checks.due("no symbology of theirs", y.mergedLength(a, b, 2), 0);
        mergedCodabar();
    }

    private static void mergedCodabar() {
        BarcodeEngine x = new BarcodeEngine();
        int h = Checks.codabarHead(x, "A12345");
        int t = Checks.codabarTail(x, "4567B");
        int u = Checks.codabarTail(x, "5678B");
        int v = Checks.codabarTail(x, "45B");
        Checks.same("overlap of 2", merged(x, h, t, 2), "A1234567B");
        Checks.due("overlap of 1", x.mergedLength(h, u, 2), 0);
        Checks.same("overlap of 2", merged(x, h, v, 2), "A12345B");
        int w = Checks.codabarHead(x, "A123456789");
        int y = Checks.codabarTail(x, "8901234B");
        Checks.same("length 16", merged(x, w, y, 2), "A12345678901234B");
        int z = Checks.codabarTail(x, "89012345C");
        Checks.due("length 17 is none", x.mergedLength(w, z, 2), 0);
        int p = Checks.codabarHead(x, "A1111111111");
        int q = Checks.codabarTail(x, "1111111B");
        Checks.same("greatest overlap", merged(x, p, q, 2), "A1111111111B");
    }

    private static String merged(BarcodeEngine x, int head, int tail, int symbology) {
        StringBuilder text = new StringBuilder();
        for (int i = 0; i < x.mergedLength(head, tail, symbology); i++) {
            text.append((char) x.mergedCharacter(head, tail, symbology, i));
        }
        return text.toString();
    }

    // Promise 28
    private static void bestScan() {
        BarcodeEngine x = new BarcodeEngine();
        for (int symbology : new int[] {-1, 3, Integer.MIN_VALUE, Integer.MAX_VALUE}) {
            Checks.index("bestScan", () -> x.bestScan(symbology));
        }
        Checks.element("no scan", () -> x.bestScan(1));
        Checks.head(x, "1234");
        Checks.element("no whole code", () -> x.bestScan(1));
        for (int i = 0; i < 4; i++) {
            Checks.scan(x, "q 1111 3113111133 311 q", 10);
        }
        Checks.due("of several the lowest one", x.bestScan(1), 1);
        x.setWidth(1, 14, 20);
        x.setWidth(2, 14, 25);
        x.setWidth(3, 14, 24);
        x.setWidth(4, 7, 13);
        x.setWidth(4, 14, 29);
        Checks.due("least of scan 2", x.confidence(2, 1, 1), 90);
        Checks.due("least of scan 4", x.confidence(4, 1, 0), 85);
        Checks.due("greatest least confidence", x.bestScan(1), 2);
        x.setWidth(4, 7, 12);
        Checks.due("of several the lowest one", x.bestScan(1), 2);
        x.setWidth(4, 7, 11);
        Checks.due("the other one", x.bestScan(1), 4);
        Checks.element("another symbology", () -> x.bestScan(0));
        BarcodeEngine y = new BarcodeEngine();
        Checks.print(y, 1, "12", 40, 0, 0);
        Checks.print(y, 1, "12", 40, 0, 0);
        y.setWidth(0, 5, 119);
        Checks.due("confidence 99", y.confidence(0, 1, 0), 99);
        Checks.due("confidence 100 is best", y.bestScan(1), 1);
    }
}
