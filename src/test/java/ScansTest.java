/** Promises 1 to 15: a new object, the text buffer, the pending widths, and the scans. */
public final class ScansTest {
    private static final String CODE = "12345670";

    public static void main(String[] args) {
        newObject();
        append();
        printWidths();
        printSpreadAndNoise();
        printRefused();
        checkCharacter();
        checkCharacterRefused();
        addWidths();
        endScan();
        countsAndWidths();
        setWidth();
        cut();
        reverse();
        smear();
        average();
        removeScan();
        Checks.end("ScansTest");
    }

    // Promise 1
    private static void newObject() {
        BarcodeEngine x = new BarcodeEngine();
        Checks.due("NONE", BarcodeEngine.NONE, -1);
        Checks.due("new: scanCount", x.scanCount(), 0);
        Checks.due("new: pending", x.addWidths(0, 0, 0, 0, 0, 0), 0);
        Checks.argument("new: print of a byte", () -> x.print(1, 2, 10, 0, 0));
        Checks.due("new: append", x.append(0, 0, 0, 0, 0), 20);
        Checks.index("new: read", () -> x.read(0, 0));
        Checks.due("new: winner", x.winner(), -1);
        for (int symbology = 0; symbology < 3; symbology++) {
            Checks.due("new: length", x.length(symbology), 0);
            Checks.due("new: check", x.setCheck(symbology, true), symbology == 0);
        }
    }

    // Promise 2
    private static void append() {
        BarcodeEngine x = new BarcodeEngine();
        Checks.due("append", x.append(0x41303132, 0x33343536, 0x3738392d, 0x243a2f42, 0x41424344), 20);
        Checks.due("append", x.append(-1, -1, -1, -1, -1), 40);
        Checks.due("append", x.append(0, 0, 0, 0, 0), 60);
        Checks.state("append over 60", () -> x.append(0, 0, 0, 0, 0));
        Checks.due("print of 16 bytes", x.print(2, 16, 10, 0, 0), 0);
        Checks.same("the bytes in order", Checks.whole(x, 0, 2), "A0123456789-$:/B");
        Checks.due("append to the emptied buffer", x.append(-1, -1, -1, -1, -1), 20);
        // Bytes from 128 on are no characters, whatever they are when taken for negative ones.
        Checks.argument("print of bytes 255", () -> x.print(1, 2, 10, 0, 0));
        BarcodeEngine y = new BarcodeEngine();
        Checks.put(y, "12");
        Checks.put(y, "34");
        Checks.due("print of the first bytes", y.print(1, 2, 10, 0, 0), 0);
        Checks.same("the first bytes", Checks.whole(y, 0, 1), "12");
    }

    // Promise 3
    private static void printWidths() {
        BarcodeEngine x = new BarcodeEngine();
        Checks.due("print", Checks.print(x, 0, CODE, 4, 0, 0), 0);
        Checks.same("EAN-8", Checks.widths(x, 0), times(4,
            "10 111 2221 2122 1411 1132 11111 1231 1114 1312 3211 111 10"));
        Checks.due("print", Checks.print(x, 0, "89898989", 40, 0, 0), 1);
        Checks.same("EAN-8", Checks.widths(x, 1), times(40,
            "10 111 1213 3112 1213 3112 11111 1213 3112 1213 3112 111 10"));
        Checks.due("print", Checks.print(x, 1, "0123456789", 10, 0, 0), 2);
        Checks.same("Interleaved", Checks.widths(x, 2), times(10,
            "10 1111 1311313113 1333111131 1311331131 1131311313 3113113311 311 10"));
        Checks.due("print", Checks.print(x, 2, "A0123456789B", 10, 0, 0), 3);
        Checks.same("Codabar", Checks.widths(x, 3), times(10, "10 1133131 1 1111133 1 1111331 1 1113113 1"
            + " 3311111 1 1131131 1 3111131 1 1311113 1 1311311 1 1331111 1 3113111 1 1313113 10"));
        Checks.due("print", Checks.print(x, 2, "C-$:/.+D", 7, 0, 0), 4);
        Checks.same("Codabar", Checks.widths(x, 4), times(7,
            "10 1113133 1 1113311 1 1133111 1 3111313 1 3131113 1 3131311 1 1131313 1 1113331 10"));
        Checks.due("shortest", Checks.print(x, 2, "A1B"), 5);
        Checks.due("longest", Checks.print(x, 2, "A12345678901234B"), 6);
        Checks.due("longest: widths", x.widthCount(6), 129);
        Checks.due("longest", Checks.print(x, 1, "12345678901234"), 7);
        Checks.due("longest: widths", x.widthCount(7), 79);
    }

    /** The digits times a factor; blanks don't count, but 10 at the ends are one width. */
    private static String times(int factor, String modules) {
        StringBuilder text = new StringBuilder().append(10 * factor);
        for (char c : modules.substring(2, modules.length() - 2).replace(" ", "").toCharArray()) {
            text.append(' ').append((c - '0') * factor);
        }
        return text.append(' ').append(10 * factor).toString();
    }

    private static void printSpreadAndNoise() {
        BarcodeEngine x = new BarcodeEngine();
        Checks.print(x, 1, "12", 4, 3, 0);
        Checks.same("spread 3", Checks.widths(x, 0), "40 7 1 7 1 15 1 7 9 7 1 7 1 15 9 15 1 7 40");
        Checks.print(x, 1, "12", 4, -3, 0);
        Checks.same("spread -3", Checks.widths(x, 1), "40 1 7 1 7 9 7 1 15 1 7 1 7 9 15 9 7 1 40");
        String[] digits = "1 1 1 1 3 1 1 3 1 1 1 1 3 3 3 1 1".split(" ");
        for (int seed : new int[] {1, 77, -5, Integer.MIN_VALUE, Integer.MAX_VALUE, 987654321}) {
            int scan = Checks.print(x, 1, "12", 4, -3, seed);
            long state = seed & 0xffffffffL;
            StringBuilder want = new StringBuilder("40");
            boolean isLimited = false;
            for (int i = 0; i < digits.length; i++) {
                state = state * 1103515245L + 12345 & 0xffffffffL;
                long noise = (state >> 16) % 3 - 1;
                long width = Integer.parseInt(digits[i]) * 4 + (i % 2 == 0 ? -3 : 3) + noise;
                isLimited |= width == 0;
                want.append(' ').append(Math.max(1, width));
            }
            Checks.same("seed " + seed, Checks.widths(x, scan), want.append(" 40").toString());
            Checks.due("a width was limited", isLimited || seed != 77, true);
        }
    }

    private static void printRefused() {
        BarcodeEngine x = new BarcodeEngine();
        Checks.put(x, CODE);
        Checks.index("no symbology first", () -> x.print(3, -1, 0, 9, 0));
        Checks.index("no symbology", () -> x.print(-1, 8, 10, 0, 0));
        Checks.argument("length -1", () -> x.print(0, -1, 10, 0, 0));
        Checks.argument("length 21", () -> x.print(0, 21, 10, 0, 0));
        Checks.argument("module 3", () -> x.print(0, 8, 3, 0, 0));
        Checks.argument("module 41", () -> x.print(0, 8, 41, 0, 0));
        Checks.argument("spread -4", () -> x.print(0, 8, 10, -4, 0));
        Checks.argument("spread 4", () -> x.print(0, 8, 10, 4, 0));
        for (int length : new int[] {0, 7, 9}) {
            Checks.argument("EAN-8 of " + length, () -> x.print(0, length, 10, 0, 0));
        }
        for (int length : new int[] {0, 1, 3}) {
            Checks.argument("Interleaved of " + length, () -> x.print(1, length, 10, 0, 0));
        }
        Checks.due("nothing is changed", x.scanCount(), 0);
        Checks.due("the buffer is not emptied", x.print(0, 8, 10, 0, 0), 0);
        Checks.argument("the buffer is emptied", () -> x.print(0, 8, 10, 0, 0));
        refuse(0, "1234567A", "1234567a", "1234567:", "123456 8", "-2345678");
        refuse(1, "1A", "A1", "1:", "/1", "123456789012345", "1234567890123456");
        refuse(2, "AB", "A", "1A2B", "A1", "A1B2", "a1B", "A1b", "AAB", "A1C2B", "E1B", "A1E", "A,B",
            "A;B", "A1234567890123456", "A123456789012345B");
        allow(1, "12", "00", "12345678901234");
        allow(2, "D+D", "A/$B", "A12345678901234B");
        printFull();
    }

    private static void refuse(int symbology, String... texts) {
        for (String text : texts) {
            BarcodeEngine y = new BarcodeEngine();
            Checks.put(y, text);
            Checks.argument("print of " + text, () -> y.print(symbology, text.length(), 10, 0, 0));
            Checks.due("the buffer stays", y.append(0, 0, 0, 0, 0), 40);
        }
    }

    private static void allow(int symbology, String... texts) {
        BarcodeEngine x = new BarcodeEngine();
        for (String text : texts) {
            int scan = Checks.print(x, symbology, text);
            Checks.same("print", Checks.whole(x, scan, symbology), text);
        }
    }

    private static void printFull() {
        BarcodeEngine x = new BarcodeEngine();
        for (int i = 0; i < 24; i++) {
            Checks.due("print", Checks.print(x, 1, "12"), i);
        }
        Checks.put(x, "12");
        Checks.state("25 scans", () -> x.print(1, 2, 10, 0, 0));
        Checks.argument("argument before state", () -> x.print(1, 3, 10, 0, 0));
        Checks.index("index before state", () -> x.print(3, 2, 10, 0, 0));
        x.removeScan(3);
        Checks.due("the buffer was kept", x.print(1, 2, 10, 0, 0), 23);
    }

    // Promise 4
    private static void checkCharacter() {
        check(0, "1234567", '0');
        check(0, "0000000", '0');
        check(0, "1000000", '7');
        check(0, "0100000", '9');
        check(0, "9999999", '5');
        check(1, "7", '9');
        check(1, "123", '6');
        check(1, "0", '0');
        check(1, "1234567890123", '1');
        check(2, "AA", '0');
        check(2, "AB", '+');
        check(2, "BA", '+');
        check(2, "A12B", ':');
        check(2, "DD", '-');
        check(2, "D9D", '1');
        check(2, "A2A", '.');
        check(2, "A3A", '/');
        check(2, "A4A", ':');
        check(2, "A5A", '$');
        check(2, "A$A", '5');
        check(2, "A1A", '+');
        check(2, "C-$:/.+000000D", '0');
    }

    private static void check(int symbology, String text, int want) {
        BarcodeEngine x = new BarcodeEngine();
        Checks.put(x, text);
        Checks.due("check of " + text, x.checkCharacter(symbology, text.length()), want);
        Checks.due("once more: check of " + text, x.checkCharacter(symbology, text.length()), want);
        Checks.due("append", x.append(0, 0, 0, 0, 0), 40);
        int place = symbology == 2 ? text.length() - 1 : text.length();
        String code = text.substring(0, place) + (char) want + text.substring(place);
        BarcodeEngine y = new BarcodeEngine();
        Checks.print(y, symbology, code);
        y.setCheck(symbology, true);
        Checks.due("right check of " + code, y.problem(symbology), 0);
    }

    private static void checkCharacterRefused() {
        String[][] wrong = {
            {"", "1", "123456", "12345678", "123456789", "123456A", "A234567", "12 4567"},
            {"", "12", "1234", "12345678901234", "123456789012345", "A", "12A", "1:3"},
            {"", "A", "1", "A1", "1A", "A1B2", "aB", "AABB", "A123456789012345", "A12345678901234B",
                "A1234567890123456B", "12"}};
        for (int symbology = 0; symbology < 3; symbology++) {
            int kind = symbology;
            for (String text : wrong[symbology]) {
                BarcodeEngine x = new BarcodeEngine();
                Checks.put(x, text);
                Checks.argument("check of " + text, () -> x.checkCharacter(kind, text.length()));
            }
        }
        BarcodeEngine x = new BarcodeEngine();
        Checks.argument("more than the buffer", () -> x.checkCharacter(0, 7));
        Checks.put(x, "1234567");
        Checks.argument("length -1", () -> x.checkCharacter(0, -1));
        Checks.argument("length 21", () -> x.checkCharacter(0, 21));
        Checks.argument("greatest length", () -> x.checkCharacter(1, Integer.MAX_VALUE));
        Checks.argument("least length", () -> x.checkCharacter(2, Integer.MIN_VALUE));
        Checks.index("no symbology first", () -> x.checkCharacter(3, -1));
        Checks.index("no symbology", () -> x.checkCharacter(-1, 7));
    }

    // Promise 5
    private static void addWidths() {
        BarcodeEngine x = new BarcodeEngine();
        Checks.due("no width", x.addWidths(0, 5, 5, 5, 5, 5), 0);
        Checks.due("one", x.addWidths(1, 0, 2, 2, 2, 2), 1);
        Checks.due("two", x.addWidths(10000, 3, 0, 9, 0, 9), 3);
        Checks.due("three", x.addWidths(4, 5, 6, 0, 0, 0), 6);
        Checks.due("four", x.addWidths(7, 8, 9, 10, 0, 1), 10);
        Checks.due("five", x.addWidths(11, 12, 13, 14, 15, 0), 15);
        Checks.due("six", x.addWidths(16, 17, 18, 19, 20, 21), 21);
        int[][] wrong = {{-1, 1, 1, 1, 1, 1}, {1, 10001, 1, 1, 1, 1}, {1, 1, -1, 1, 1, 1},
            {0, 0, 0, 10001, 0, 0}, {1, 0, 0, 0, -1, 0}, {0, 0, 0, 0, 0, Integer.MAX_VALUE}};
        for (int[] w : wrong) {
            Checks.argument("out of range", () -> x.addWidths(w[0], w[1], w[2], w[3], w[4], w[5]));
        }
        Checks.due("nothing is added", x.addWidths(0, 0, 0, 0, 0, 0), 21);
        x.endScan();
        Checks.same("widths in order", Checks.widths(x, 0),
            "1 10000 3 4 5 6 7 8 9 10 11 12 13 14 15 16 17 18 19 20 21");
        for (int i = 0; i < 21; i++) {
            x.addWidths(1, 1, 1, 1, 1, 1);
        }
        Checks.state("130 widths", () -> x.addWidths(1, 1, 1, 1, 0, 0));
        Checks.argument("argument before state", () -> x.addWidths(1, 1, 1, 1, 0, -1));
        Checks.due("129 widths", x.addWidths(2, 2, 2, 0, 3, 3), 129);
        Checks.due("no more width", x.addWidths(0, 1, 0, 0, 0, 0), 129);
        Checks.state("130 widths", () -> x.addWidths(1, 0, 0, 0, 0, 0));
        Checks.due("a scan of 129", x.endScan(), 1);
        Checks.due("a scan of 129", x.widthCount(1), 129);
        Checks.due("its last width", x.width(1, 128), 2);
        Checks.due("its last width but 3", x.width(1, 125), 1);
    }

    // Promise 6
    private static void endScan() {
        BarcodeEngine x = new BarcodeEngine();
        Checks.state("no width", () -> x.endScan());
        x.addWidths(1, 0, 0, 0, 0, 0);
        Checks.state("1 width", () -> x.endScan());
        x.addWidths(2, 0, 0, 0, 0, 0);
        Checks.state("2 widths", () -> x.endScan());
        Checks.due("they stay", x.addWidths(3, 0, 0, 0, 0, 0), 3);
        Checks.due("3 widths", x.endScan(), 0);
        Checks.same("3 widths", Checks.widths(x, 0), "1 2 3");
        Checks.state("none are left", () -> x.endScan());
        Checks.due("none are left", x.addWidths(1, 1, 1, 1, 0, 0), 4);
        Checks.state("4 widths", () -> x.endScan());
        x.addWidths(1, 0, 0, 0, 0, 0);
        Checks.due("5 widths", x.endScan(), 1);
        for (int i = 2; i < 24; i++) {
            Checks.due("scan", Checks.scan(x, 5, 6, 7), i);
        }
        x.addWidths(1, 2, 3, 0, 0, 0);
        Checks.state("25 scans", () -> x.endScan());
        x.removeScan(0);
        Checks.due("the widths were kept", x.endScan(), 23);
        Checks.same("the widths were kept", Checks.widths(x, 23), "1 2 3");
    }

    // Promises 7, 8, 9
    private static void countsAndWidths() {
        BarcodeEngine x = new BarcodeEngine();
        Checks.scan(x, 9, 8, 7);
        Checks.scan(x, 6, 5, 4, 3, 2);
        Checks.due("scanCount", x.scanCount(), 2);
        Checks.due("widthCount", x.widthCount(0), 3);
        Checks.due("widthCount", x.widthCount(1), 5);
        Checks.due("width", x.width(0, 0), 9);
        Checks.due("width", x.width(0, 2), 7);
        Checks.due("width", x.width(1, 4), 2);
        for (int scan : new int[] {-1, 2, 24, Integer.MIN_VALUE, Integer.MAX_VALUE}) {
            Checks.index("widthCount of " + scan, () -> x.widthCount(scan));
            Checks.index("width of " + scan, () -> x.width(scan, 0));
        }
        for (int index : new int[] {-1, 3, 129, Integer.MIN_VALUE, Integer.MAX_VALUE}) {
            Checks.index("width at " + index, () -> x.width(0, index));
        }
        for (int i = 3; i <= 24; i++) {
            Checks.scan(x, 1, 1, 1);
            Checks.due("scanCount", x.scanCount(), i);
        }
    }

    // Promise 10
    private static void setWidth() {
        BarcodeEngine x = new BarcodeEngine();
        Checks.scan(x, 9, 8, 7);
        Checks.due("setWidth", x.setWidth(0, 1, 10000), 8);
        Checks.due("setWidth", x.setWidth(0, 1, 1), 10000);
        Checks.argument("width 0", () -> x.setWidth(0, 1, 0));
        Checks.argument("width 10001", () -> x.setWidth(0, 1, 10001));
        Checks.argument("least width", () -> x.setWidth(0, 1, Integer.MIN_VALUE));
        Checks.index("index -1, and first", () -> x.setWidth(0, -1, 0));
        Checks.index("index 3, and first", () -> x.setWidth(0, 3, 0));
        Checks.index("scan 1, and first", () -> x.setWidth(1, 0, 0));
        Checks.index("scan -1", () -> x.setWidth(-1, 0, 5));
        Checks.same("the others stay", Checks.widths(x, 0), "9 1 7");
        Checks.print(x, 0, CODE);
        Checks.due("read before", x.read(1, 0), 8);
        Checks.due("length before", x.length(0), 8);
        x.setWidth(1, 5, 999);
        Checks.due("read afterwards", x.read(1, 0), 0);
        Checks.due("length afterwards", x.length(0), 0);
    }

    // Promise 11
    private static void cut() {
        BarcodeEngine x = new BarcodeEngine();
        Checks.scan(x, 1, 2, 3, 4, 5, 6, 7, 8, 9);
        Checks.index("from -1, and first", () -> x.cut(0, -1, 1));
        Checks.index("from -2", () -> x.cut(0, -2, 4));
        Checks.index("to 9, and first", () -> x.cut(0, 1, 9));
        Checks.index("to 10", () -> x.cut(0, 0, 10));
        Checks.index("to -2, and first", () -> x.cut(0, 0, -2));
        Checks.index("from 10, and first", () -> x.cut(0, 10, 8));
        Checks.index("greatest from", () -> x.cut(0, Integer.MAX_VALUE - 1, 8));
        Checks.index("scan 1, and first", () -> x.cut(1, 1, 1));
        Checks.index("scan -1", () -> x.cut(-1, 0, 2));
        Checks.argument("odd from", () -> x.cut(0, 1, 6));
        Checks.argument("odd to", () -> x.cut(0, 2, 7));
        Checks.argument("from = to", () -> x.cut(0, 4, 4));
        Checks.argument("to < from", () -> x.cut(0, 4, 2));
        Checks.same("nothing is cut", Checks.widths(x, 0), "1 2 3 4 5 6 7 8 9");
        Checks.due("cut of nothing", x.cut(0, 0, 8), 9);
        Checks.due("cut", x.cut(0, 2, 8), 7);
        Checks.same("cut", Checks.widths(x, 0), "3 4 5 6 7 8 9");
        Checks.due("cut", x.cut(0, 2, 4), 3);
        Checks.same("cut", Checks.widths(x, 0), "5 6 7");
        Checks.due("widthCount", x.widthCount(0), 3);
        Checks.index("a width cut off", () -> x.width(0, 3));
        Checks.print(x, 0, CODE);
        Checks.due("length before", x.length(0), 8);
        x.cut(1, 0, 42);
        Checks.due("length afterwards", x.length(0), 0);
    }

    // Promise 12
    private static void reverse() {
        BarcodeEngine x = new BarcodeEngine();
        Checks.scan(x, 1, 2, 3, 4, 5);
        Checks.scan(x, 6, 7, 8);
        x.reverse(0);
        Checks.same("reverse", Checks.widths(x, 0), "5 4 3 2 1");
        Checks.same("the other scan", Checks.widths(x, 1), "6 7 8");
        x.reverse(0);
        Checks.same("reverse twice", Checks.widths(x, 0), "1 2 3 4 5");
        for (int scan : new int[] {-1, 2, Integer.MIN_VALUE, Integer.MAX_VALUE}) {
            Checks.index("reverse of " + scan, () -> {
                x.reverse(scan);
                return 0;
            });
        }
        Checks.print(x, 0, CODE);
        Checks.due("as it is", x.isReversed(2, 0), false);
        x.reverse(2);
        Checks.due("in reverse", x.isReversed(2, 0), true);
        x.reverse(2);
        Checks.due("as it is again", x.isReversed(2, 0), false);
    }

    // Promise 13
    private static void smear() {
        BarcodeEngine x = new BarcodeEngine();
        Checks.scan(x, 5, 30, 40, 50, 5);
        Checks.due("smear", x.smear(0, 10), 0);
        Checks.same("smear", Checks.widths(x, 0), "5 40 30 60 5");
        Checks.due("smear", x.smear(0, 29), 0);
        Checks.same("just 1", Checks.widths(x, 0), "5 69 1 89 5");
        Checks.due("smear", x.smear(0, 1), 1);
        Checks.same("limited to 1", Checks.widths(x, 0), "5 70 1 90 5");
        Checks.due("smear", x.smear(0, -100), 2);
        Checks.same("bars limited to 1", Checks.widths(x, 0), "5 1 101 1 5");
        Checks.due("smear", x.smear(0, 0), 0);
        Checks.same("smear of 0", Checks.widths(x, 0), "5 1 101 1 5");
        x.setWidth(0, 1, 9900);
        x.setWidth(0, 2, 1000);
        x.setWidth(0, 3, 9901);
        Checks.due("smear", x.smear(0, 100), 1);
        Checks.same("limited to 10,000", Checks.widths(x, 0), "5 10000 900 10000 5");
        x.setWidth(0, 2, 9999);
        Checks.due("smear", x.smear(0, -2), 1);
        Checks.same("a space limited to 10,000", Checks.widths(x, 0), "5 9998 10000 9998 5");
        Checks.argument("amount 101", () -> x.smear(0, 101));
        Checks.argument("amount -101", () -> x.smear(0, -101));
        Checks.argument("least amount", () -> x.smear(0, Integer.MIN_VALUE));
        Checks.index("scan 1, and first", () -> x.smear(1, 101));
        Checks.index("scan -1", () -> x.smear(-1, 0));
        Checks.same("nothing is changed", Checks.widths(x, 0), "5 9998 10000 9998 5");
        Checks.scan(x, 1, 1, 1);
        Checks.due("smear of 3 widths", x.smear(1, 100), 0);
        Checks.same("smear of 3 widths", Checks.widths(x, 1), "1 101 1");
    }

    // Promise 14
    private static void average() {
        BarcodeEngine x = new BarcodeEngine();
        Checks.scan(x, 1, 2, 3, 10000, 5);
        Checks.scan(x, 1, 3, 5, 9999, 8);
        Checks.scan(x, 1, 2, 3);
        x.average(0, 1);
        Checks.same("average", Checks.widths(x, 0), "1 3 4 10000 7");
        Checks.same("the other one stays", Checks.widths(x, 1), "1 3 5 9999 8");
        x.average(0, 0);
        Checks.same("with itself", Checks.widths(x, 0), "1 3 4 10000 7");
        int[][] wrong = {{-1, 0}, {3, 0}, {0, -1}, {0, 3}, {2, 3}, {Integer.MAX_VALUE, Integer.MIN_VALUE}};
        for (int[] two : wrong) {
            Checks.index("average of " + two[0] + " and " + two[1], () -> {
                x.average(two[0], two[1]);
                return 0;
            });
        }
        for (int[] two : new int[][] {{0, 2}, {2, 1}}) {
            Checks.argument("average of " + two[0] + " and " + two[1], () -> {
                x.average(two[0], two[1]);
                return 0;
            });
        }
        Checks.same("nothing is changed", Checks.widths(x, 2), "1 2 3");
        Checks.print(x, 1, "12");
        Checks.print(x, 1, "21");
        Checks.same("before", Checks.whole(x, 3, 1), "12");
        x.average(3, 4);
        Checks.due("the reading is new", x.read(3, 1), 0);
    }

    // Promise 15
    private static void removeScan() {
        BarcodeEngine x = new BarcodeEngine();
        for (int i = 1; i <= 5; i++) {
            Checks.scan(x, i, 10 * i, 100 * i);
        }
        Checks.due("remove the third one", x.removeScan(2), 4);
        Checks.same("before it", Checks.widths(x, 1), "2 20 200");
        Checks.same("behind it", Checks.widths(x, 2), "4 40 400");
        Checks.same("the last one", Checks.widths(x, 3), "5 50 500");
        Checks.index("there are 4", () -> x.widthCount(4));
        Checks.index("there are 4", () -> x.removeScan(4));
        Checks.index("scan -1", () -> x.removeScan(-1));
        Checks.due("remove the last one", x.removeScan(3), 3);
        Checks.due("remove the first one", x.removeScan(0), 2);
        Checks.same("the new first one", Checks.widths(x, 0), "2 20 200");
        Checks.due("a new scan", Checks.scan(x, 7, 7, 7, 7, 7), 2);
        Checks.same("a new scan", Checks.widths(x, 2), "7 7 7 7 7");
        Checks.same("the others stay", Checks.widths(x, 1), "4 40 400");
        Checks.due("remove", x.removeScan(0), 2);
        Checks.due("remove", x.removeScan(0), 1);
        Checks.due("remove", x.removeScan(0), 0);
        Checks.index("there is none", () -> x.removeScan(0));
        Checks.print(x, 0, CODE);
        Checks.print(x, 1, "12");
        Checks.due("length before", x.length(0), 8);
        x.removeScan(0);
        Checks.due("length afterwards", x.length(0), 0);
        Checks.same("its reading moves along", Checks.whole(x, 0, 1), "12");
    }
}
