/**
 * Promises 1 to 38: each sentence that names a boundary (it stands above the test, shortened), with
 * the last value on either side of it. What is refused stands in RefusedTest.
 */
public final class PromiseEdgesTest {
    private static final int NONE = BarcodeEngine.NONE;
    private static final int LEAST = Integer.MIN_VALUE;
    private static final int MOST = Integer.MAX_VALUE;
    private static final String VALUES = "0123456789-$:/.+ABCD";
    private static final String EAN_LEFT = "111 2221 2122 1411 1132";
    private static final String EAN_RIGHT = "1231 1114 1312 3211 111";

    public static void main(String[] args) {
        newObject();
        twentyBytes();
        mostSignificantByteFirst();
        printFirstBytes();
        printModules();
        printSpread();
        printAtLeastOne();
        printSeedZero();
        printSeedWrapsAround();
        printSeedBecomesZero();
        printEmptiesTheBuffer();
        checkCharacterOfEachValue();
        checkCharacterLengths();
        checkCharacterChangesNothing();
        addWidthsUpToZero();
        endScanLeavesNone();
        scanCount();
        widthsOfScans();
        setWidth();
        cut();
        reverse();
        smearAmounts();
        smearLimits();
        average();
        averageWithItself();
        removeScan();
        read();
        readPart();
        characterAndConfidence();
        partCharacter();
        isReversed();
        agreement();
        overlap();
        module();
        spread();
        moduleAndSpreadInReverse();
        spreadOfGreatWidths();
        mergedEan();
        mergedOthers();
        bestScan();
        length();
        weight();
        voted();
        runnerUp();
        problem();
        doubtful();
        repaired();
        winner();
        winnerShares();
        worstScan();
        setCheck();
        call512();
        Checks.end("PromiseEdgesTest");
    }

    private static BarcodeEngine printed(int symbology, String... texts) {
        BarcodeEngine x = new BarcodeEngine();
        for (String text : texts) {
            Checks.print(x, symbology, text);
        }
        return x;
    }

    // ---- scans

    // Promise 1: "without scans, with an empty text buffer and no pending widths"
    private static void newObject() {
        Checks.due("NONE", BarcodeEngine.NONE, -1);
        BarcodeEngine x = new BarcodeEngine();
        Checks.due("no scans", x.scanCount(), 0);
        Checks.due("no pending widths", x.addWidths(0, 0, 0, 0, 0, 0), 0);
        Checks.state("no pending widths", () -> x.endScan());
        Checks.argument("an empty buffer", () -> x.checkCharacter(1, 1));
        Checks.due("an empty buffer", x.append(0, 0, 0, 0, 0), 20);
        // Two objects have nothing in common.
        BarcodeEngine y = new BarcodeEngine();
        BarcodeEngine z = new BarcodeEngine();
        Checks.print(z, 0, "12345670");
        z.setCheck(1, true);
        z.addWidths(1, 2, 3, 0, 0, 0);
        Checks.put(z, "12");
        Checks.due("another object", y.scanCount(), 0);
        Checks.due("another object", y.addWidths(0, 0, 0, 0, 0, 0), 0);
        Checks.due("another object", y.length(0), 0);
        Checks.due("another object", y.setCheck(1, false), false);
        Checks.due("another object", y.append(0, 0, 0, 0, 0), 20);
    }

    // Promise 2: "Appends 20 bytes"; "if the length would exceed 60"
    private static void twentyBytes() {
        BarcodeEngine x = new BarcodeEngine();
        Checks.due("20", x.append(LEAST, MOST, -1, 0, 1), 20);
        Checks.due("40", x.append(LEAST, MOST, -1, 0, 1), 40);
        Checks.due("60", x.append(LEAST, MOST, -1, 0, 1), 60);
        Checks.state("80", () -> x.append(LEAST, MOST, -1, 0, 1));
        Checks.state("80", () -> x.append(0, 0, 0, 0, 0));
        // A full buffer can be used, and is empty then.
        BarcodeEngine y = new BarcodeEngine();
        for (int i = 0; i < 3; i++) {
            Checks.put(y, "1234567" + i);
        }
        Checks.due("the first bytes of 60", y.print(0, 8, 10, 0, 0), 0);
        Checks.same("the first bytes of 60", Checks.whole(y, 0, 0), "12345670");
        Checks.due("20 again", y.append(0, 0, 0, 0, 0), 20);
    }

    // Promise 2: "the four bytes of each argument in order, the most significant byte first"
    private static void mostSignificantByteFirst() {
        BarcodeEngine x = new BarcodeEngine();
        x.append(0x41303132, 0x33343536, 0x37383930, 0x31323342, 0x43434343);
        x.print(2, 16, 10, 0, 0);
        Checks.same("bytes in order", Checks.whole(x, 0, 2), "A01234567890123B");
        // Bytes of which the highest bit is set are no characters, and do no harm to the others.
        BarcodeEngine y = new BarcodeEngine();
        y.append(0x3132ffff, -1, LEAST, 0x80808080, 0xb1b2b3b4);
        Checks.argument("a byte 255", () -> y.print(1, 4, 10, 0, 0));
        Checks.due("two digits in front of it", y.print(1, 2, 10, 0, 0), 0);
        BarcodeEngine z = new BarcodeEngine();
        z.append(0x31b20000, 0, 0, 0, 0);
        Checks.argument("'2' + 128", () -> z.print(1, 2, 10, 0, 0));
    }

    // Promise 3: "length is not 0 to the length of the buffer"
    private static void printFirstBytes() {
        for (int count = 2; count <= 14; count += 2) {
            BarcodeEngine x = new BarcodeEngine();
            Checks.put(x, "98765432109876543210");
            Checks.due("print of " + count, x.print(1, count, 10, 0, 0), 0);
            Checks.same("the first " + count, Checks.whole(x, 0, 1), "98765432109876".substring(0, count));
        }
        BarcodeEngine y = new BarcodeEngine();
        Checks.argument("2 of 0 bytes", () -> y.print(1, 2, 10, 0, 0));
        Checks.put(y, "12");
        Checks.argument("22 of 20 bytes", () -> y.print(1, 22, 10, 0, 0));
        Checks.due("2 of 20 bytes", y.print(1, 2, 10, 0, 0), 0);
    }

    // Promise 3: "width of a module, 4 to 40"; "a quiet zone of 10 modules, the code, a quiet zone of 10
    // modules"
    private static void printModules() {
        for (int module = 0; module <= 45; module++) {
            BarcodeEngine x = new BarcodeEngine();
            Checks.put(x, "12");
            int m = module;
            if (module < 4 || module > 40) {
                Checks.argument("module " + module, () -> x.print(1, 2, m, 0, 0));
                Checks.due("no scan", x.scanCount(), 0);
            } else {
                Checks.due("module " + module, x.print(1, 2, m, 0, 0), 0);
                Checks.due("widths", x.widthCount(0), 19);
                for (int i = 0; i < 19; i++) {
                    int modules = "q111131131111333 11q".replace(" ", "").charAt(i);
                    Checks.due("width " + i, x.width(0, i), (modules == 'q' ? 10 : modules - '0') * module);
                }
            }
        }
    }

    // Promise 3: "ink spread, -3 to 3"; "plus the spread for bars or minus the spread for spaces"
    private static void printSpread() {
        for (int spread = -5; spread <= 5; spread++) {
            BarcodeEngine x = new BarcodeEngine();
            Checks.put(x, "12");
            int s = spread;
            if (spread < -3 || spread > 3) {
                Checks.argument("spread " + spread, () -> x.print(1, 2, 10, s, 0));
                Checks.due("no scan", x.scanCount(), 0);
            } else {
                Checks.due("spread " + spread, x.print(1, 2, 10, s, 0), 0);
                Checks.due("quiet zone", x.width(0, 0), 100);
                Checks.due("a bar of 1", x.width(0, 1), 10 + spread);
                Checks.due("a space of 1", x.width(0, 2), 10 - spread);
                Checks.due("a bar of 3", x.width(0, 5), 30 + spread);
                Checks.due("a space of 3", x.width(0, 8), 30 - spread);
                Checks.due("the last bar", x.width(0, 17), 10 + spread);
                Checks.due("quiet zone", x.width(0, 18), 100);
            }
        }
    }

    /** The widths of the code 12 between its quiet zones, by 64-bit numbers. */
    private static String noisy(int module, int spread, int seed) {
        StringBuilder text = new StringBuilder().append(10 * module);
        long state = seed & 0xffffffffL;
        String modules = "11113113111133311";
        for (int i = 0; i < modules.length(); i++) {
            state = (1103515245L * state + 12345) % (1L << 32);
            long noise = seed == 0 ? 0 : state / 65536 % 3 - 1;
            long width = (modules.charAt(i) - '0') * module + (i % 2 == 0 ? spread : -spread) + noise;
            text.append(' ').append(width < 1 ? 1 : width);
        }
        return text.append(' ').append(10 * module).toString();
    }

    private static void printsNoisy(int module, int spread, int seed) {
        BarcodeEngine x = new BarcodeEngine();
        Checks.print(x, 1, "12", module, spread, seed);
        Checks.same("seed " + seed, Checks.widths(x, 0), noisy(module, spread, seed));
    }

    // Promise 3: "at least 1": a bar or space of 4 with a spread of 3 has 1, and with a noise of -1 0
    private static void printAtLeastOne() {
        Checks.same("just 1", noisy(4, 3, 0), "40 7 1 7 1 15 1 7 9 7 1 7 1 15 9 15 1 7 40");
        int limited = 0;
        for (int seed = -40; seed <= 40; seed++) {
            for (int spread = -3; spread <= 3; spread++) {
                printsNoisy(4, spread, seed);
            }
            limited += noisy(4, 3, seed).equals(noisy(4, 3, 0)) ? 0 : 1;
        }
        Checks.due("there is noise", limited > 70, true);
    }

    // Promise 3: "Without a seed (seed 0) the noise is 0."
    private static void printSeedZero() {
        for (int module = 4; module <= 40; module++) {
            printsNoisy(module, 0, 0);
        }
        BarcodeEngine x = new BarcodeEngine();
        Checks.print(x, 1, "12", 10, 0, 0);
        Checks.print(x, 1, "12", 10, 0, 1);
        Checks.print(x, 1, "12", 10, 0, -1);
        Checks.due("seed 1 is one", Checks.widths(x, 0).equals(Checks.widths(x, 1)), false);
        Checks.due("seed -1 is one", Checks.widths(x, 0).equals(Checks.widths(x, 2)), false);
        Checks.due("quiet zones have no noise", x.width(1, 0) + x.width(1, 18) + x.width(2, 0) + x.width(2, 18), 400);
    }

    // Promise 3: "the seed is replaced by 1103515245 * seed + 12345 (a 32-bit int that wraps around), and
    // the noise is (seed >>> 16) modulo 3 minus 1"
    private static void printSeedWrapsAround() {
        for (int seed : new int[] {1, -1, 2, -2, 65535, 65536, 1 << 30, -(1 << 30), LEAST, LEAST + 1, MOST, MOST - 1}) {
            printsNoisy(10, 0, seed);
            printsNoisy(40, -3, seed);
        }
        // The longest code: 127 widths, one seed after the other.
        BarcodeEngine x = new BarcodeEngine();
        Checks.print(x, 2, "A12345678901234B", 10, 0, 0);
        Checks.print(x, 2, "A12345678901234B", 10, 0, MOST);
        long state = MOST;
        for (int i = 1; i <= 127; i++) {
            state = (1103515245L * state + 12345) % (1L << 32);
            Checks.due("noise at " + i, x.width(1, i) - x.width(0, i), state / 65536 % 3 - 1);
        }
        Checks.due("no noise behind", x.width(1, 128), 100);
    }

    // With the seed -59267453 the first of the following ones is 0: it goes on all the same.
    private static void printSeedBecomesZero() {
        Checks.due("the next seed is 0", 1103515245 * -59267453 + 12345, 0);
        printsNoisy(10, 0, -59267453);
        BarcodeEngine x = new BarcodeEngine();
        Checks.print(x, 1, "12", 10, 0, -59267453);
        Checks.due("the noise of 0", x.width(0, 1), 9);
        Checks.due("the noise of 12345", x.width(0, 2), 9);
    }

    // Promise 3: "The buffer is empty afterwards, unless an exception is thrown."
    private static void printEmptiesTheBuffer() {
        BarcodeEngine x = new BarcodeEngine();
        Checks.put(x, "12345670");
        Checks.put(x, "12345670");
        Checks.argument("no code", () -> x.print(0, 9, 10, 0, 0));
        Checks.due("a buffer of 60", x.append(0, 0, 0, 0, 0), 60);
        Checks.due("print", x.print(0, 8, 10, 0, 0), 0);
        Checks.argument("nothing is left", () -> x.print(0, 8, 10, 0, 0));
        Checks.due("a buffer of 20", x.append(0, 0, 0, 0, 0), 20);
    }

    // Promise 4: "the character with which, added at the end (in Codabar before the last character), they
    // would have a right check", for each one that it can be
    private static void checkCharacterOfEachValue() {
        for (int value = 0; value < 10; value++) {
            BarcodeEngine x = new BarcodeEngine();
            Checks.put(x, "000000" + value);
            Checks.due("EAN-8", x.checkCharacter(0, 7), '0' + (30 - 3 * value) % 10);
            BarcodeEngine y = new BarcodeEngine();
            Checks.put(y, "" + value);
            Checks.due("Interleaved", y.checkCharacter(1, 1), '0' + (30 - 3 * value) % 10);
            BarcodeEngine z = new BarcodeEngine();
            Checks.put(z, "0" + value + "0");
            Checks.due("Interleaved", z.checkCharacter(1, 3), '0' + (10 - value) % 10);
        }
        for (int value = 0; value < 16; value++) {
            BarcodeEngine x = new BarcodeEngine();
            Checks.put(x, "A" + VALUES.charAt(value) + "A");
            Checks.due("Codabar " + value, x.checkCharacter(2, 3), VALUES.charAt((16 - value) % 16));
        }
        for (int first = 16; first < 20; first++) {
            for (int last = 16; last < 20; last++) {
                BarcodeEngine x = new BarcodeEngine();
                Checks.put(x, "" + VALUES.charAt(first) + VALUES.charAt(last));
                Checks.due("Codabar", x.checkCharacter(2, 2), VALUES.charAt((64 - first - last) % 16));
            }
        }
    }

    // Promise 4: "The bytes must be a code of the symbology when this character is added"
    private static void checkCharacterLengths() {
        String zeros = "00000000000000000000";
        for (int count = 0; count <= 20; count++) {
            int length = count;
            BarcodeEngine x = new BarcodeEngine();
            Checks.put(x, zeros);
            if (length == 7) {
                Checks.due("EAN-8 of 7", x.checkCharacter(0, 7), '0');
            } else {
                Checks.argument("EAN-8 of " + length, () -> x.checkCharacter(0, length));
            }
            if (length % 2 == 1 && length <= 13) {
                Checks.due("Interleaved of " + length, x.checkCharacter(1, length), '0');
            } else {
                Checks.argument("Interleaved of " + length, () -> x.checkCharacter(1, length));
            }
            BarcodeEngine y = new BarcodeEngine();
            Checks.put(y, count < 2 ? "A".repeat(count) : "A" + zeros.substring(0, count - 2) + "A");
            if (length >= 2 && length <= 15) {
                Checks.due("Codabar of " + length, y.checkCharacter(2, length), '0');
            } else {
                Checks.argument("Codabar of " + length, () -> y.checkCharacter(2, length));
            }
        }
        wrongBytes(0, "A234567", "123456A", "123 567");
        wrongBytes(1, "A", "12A", "A23", "1:3");
        wrongBytes(2, "12", "A1", "1A", "ABA", "A1AB", "AE", "EA", "A1");
    }

    private static void wrongBytes(int symbology, String... texts) {
        for (String text : texts) {
            BarcodeEngine x = new BarcodeEngine();
            Checks.put(x, text);
            Checks.argument("check of " + text, () -> x.checkCharacter(symbology, text.length()));
        }
    }

    // Promise 4: "The buffer is not changed."
    private static void checkCharacterChangesNothing() {
        BarcodeEngine x = new BarcodeEngine();
        Checks.put(x, "12345678");
        for (int length = 1; length <= 7; length += 2) {
            x.checkCharacter(1, length);
        }
        x.checkCharacter(0, 7);
        Checks.due("no scan", x.scanCount(), 0);
        Checks.due("40 bytes", x.append(0, 0, 0, 0, 0), 40);
        Checks.due("print", x.print(1, 8, 10, 0, 0), 0);
        Checks.same("the bytes", Checks.whole(x, 0, 1), "12345678");
    }

    // Promise 5: "the arguments in order up to the first one that is 0"
    private static void addWidthsUpToZero() {
        for (int zero = 0; zero <= 6; zero++) {
            int[] w = {11, 12, 13, 14, 15, 16};
            if (zero < 6) {
                w[zero] = 0;
            }
            BarcodeEngine x = new BarcodeEngine();
            Checks.due("widths in front of the 0", x.addWidths(w[0], w[1], w[2], w[3], w[4], w[5]), zero);
            Checks.due("three more", x.addWidths(1, 10000, 1, 0, 0, 0), zero + 3);
            if (zero % 2 == 0) {
                x.endScan();
                Checks.same("in order", Checks.widths(x, 0), "11 12 13 14 15 16 ".substring(0, 3 * zero) + "1 10000 1");
            }
        }
        BarcodeEngine y = new BarcodeEngine();
        Checks.due("nothing behind the first 0", y.addWidths(1, 0, 2, 0, 3, 4), 1);
        Checks.due("nothing at all", y.addWidths(0, 1, 2, 3, 4, 5), 1);
    }

    // Promise 6: "Makes a scan of the pending widths; there are none afterwards."
    private static void endScanLeavesNone() {
        BarcodeEngine x = new BarcodeEngine();
        for (int i = 0; i < 24; i++) {
            x.addWidths(i + 1, 2, 3, 0, 0, 0);
            Checks.due("the number of the scan", x.endScan(), i);
            Checks.due("no pending widths", x.addWidths(0, 0, 0, 0, 0, 0), 0);
            Checks.due("three widths", x.widthCount(i), 3);
        }
        x.addWidths(7, 8, 9, 0, 0, 0);
        Checks.same("scans are rows of their own", Checks.widths(x, 0), "1 2 3");
        Checks.same("scans are rows of their own", Checks.widths(x, 23), "24 2 3");
    }

    // Promise 7: "Returns 0 to 24."
    private static void scanCount() {
        BarcodeEngine x = new BarcodeEngine();
        for (int i = 0; i < 24; i++) {
            Checks.due("scanCount", x.scanCount(), i);
            Checks.scan(x, 1, 2, 3);
        }
        for (int i = 24; i > 0; i--) {
            Checks.due("scanCount", x.scanCount(), i);
            x.removeScan(i / 2);
        }
        Checks.due("scanCount", x.scanCount(), 0);
    }

    // Promises 8 and 9: "if the scan or the width does not exist"
    private static void widthsOfScans() {
        BarcodeEngine x = new BarcodeEngine();
        Checks.scan(x, 7, 8, 9);
        Checks.print(x, 2, "A12345678901234B");
        Checks.due("3 widths", x.widthCount(0), 3);
        Checks.due("129 widths", x.widthCount(1), 129);
        Checks.due("the first one", x.width(0, 0), 7);
        Checks.due("the last one", x.width(0, 2), 9);
        Checks.due("the last one", x.width(1, 128), 100);
        Checks.index("behind the last one", () -> x.width(0, 3));
        Checks.index("behind the last one", () -> x.width(1, 129));
        Checks.index("before the first one", () -> x.width(0, -1));
        Checks.index("behind the last scan", () -> x.widthCount(2));
        Checks.index("before the first scan", () -> x.widthCount(-1));
        x.cut(1, 0, 126);
        Checks.index("cut off", () -> x.width(1, 127));
        x.removeScan(0);
        Checks.index("no longer there", () -> x.widthCount(1));
    }

    // Promise 10: "the new width, 1 to 10,000"; "Returns the previous width."
    private static void setWidth() {
        BarcodeEngine x = new BarcodeEngine();
        Checks.scan(x, 7, 8, 9);
        for (int index = 0; index < 3; index++) {
            Checks.due("the previous width", x.setWidth(0, index, 1), 7 + index);
            Checks.due("the previous width", x.setWidth(0, index, 10000), 1);
            Checks.due("the previous width", x.setWidth(0, index, 10000), 10000);
        }
        Checks.same("all of them", Checks.widths(x, 0), "10000 10000 10000");
    }

    // Promise 11: "from: an even number; to: an even number, at least from + 2"
    private static void cut() {
        for (int from = 0; from < 9; from++) {
            for (int to = 0; to < 9; to++) {
                BarcodeEngine x = new BarcodeEngine();
                Checks.scan(x, 1, 2, 3, 4, 5, 6, 7, 8, 9);
                int f = from;
                int t = to;
                if (from % 2 == 1 || to % 2 == 1 || to < from + 2) {
                    Checks.argument("cut " + from + ", " + to, () -> x.cut(0, f, t));
                    Checks.due("nothing is cut", x.widthCount(0), 9);
                } else {
                    Checks.due("cut " + from + ", " + to, x.cut(0, f, t), to - from + 1);
                    Checks.same("what stays", Checks.widths(x, 0), "1 2 3 4 5 6 7 8 9".substring(2 * from, 2 * to + 1));
                }
            }
        }
        BarcodeEngine y = new BarcodeEngine();
        Checks.print(y, 2, "A12345678901234B");
        Checks.due("129 widths stay", y.cut(0, 0, 128), 129);
        Checks.due("3 widths stay", y.cut(0, 126, 128), 3);
        Checks.due("3 widths stay", y.cut(0, 0, 2), 3);
        Checks.index("to 4 of 3", () -> y.cut(0, 0, 4));
    }

    // Promise 12, with the shortest and the longest scan
    private static void reverse() {
        BarcodeEngine x = new BarcodeEngine();
        Checks.scan(x, 7, 8, 9);
        x.reverse(0);
        Checks.same("3 widths", Checks.widths(x, 0), "9 8 7");
        for (int i = 1; i <= 126; i += 6) {
            x.addWidths(i, i + 1, i + 2, i + 3, i + 4, i + 5);
        }
        x.addWidths(127, 128, 129, 0, 0, 0);
        x.endScan();
        x.reverse(1);
        for (int i = 0; i < 129; i++) {
            Checks.due("129 widths", x.width(1, i), 129 - i);
        }
    }

    // Promise 13: "amount: -100 to 100"; "all spaces but the first and the last one"
    private static void smearAmounts() {
        for (int amount : new int[] {-100, -99, -1, 0, 1, 99, 100}) {
            BarcodeEngine x = new BarcodeEngine();
            Checks.scan(x, 500, 500, 500, 500, 500);
            Checks.due("smear by " + amount, x.smear(0, amount), 0);
            int bar = 500 + amount;
            int space = 500 - amount;
            Checks.same("smear by " + amount, Checks.widths(x, 0), "500 " + bar + " " + space + " " + bar + " 500");
        }
        for (int amount : new int[] {-101, 101}) {
            BarcodeEngine x = new BarcodeEngine();
            Checks.scan(x, 500, 500, 500, 500, 500);
            Checks.argument("smear by " + amount, () -> x.smear(0, amount));
            Checks.same("nothing is smeared", Checks.widths(x, 0), "500 500 500 500 500");
        }
        BarcodeEngine y = new BarcodeEngine();
        Checks.scan(y, 500, 500, 500);
        Checks.due("3 widths: a bar alone", y.smear(0, -100), 0);
        Checks.same("3 widths: a bar alone", Checks.widths(y, 0), "500 400 500");
    }

    // Promise 13: "the number of widths that were limited to 1 or 10,000 (they would have been beyond)"
    private static void smearLimits() {
        int[][] cases = {{100, 9900, 101, 0}, {100, 9901, 101, 1}, {100, 9900, 100, 1}, {100, 9901, 100, 2},
            {100, 10000, 1, 2}, {-100, 101, 9900, 0}, {-100, 100, 9900, 1}, {-100, 101, 9901, 1}, {-100, 1, 10000, 2},
            {1, 9999, 2, 0}, {1, 10000, 2, 1}, {1, 9999, 1, 1}, {-1, 2, 9999, 0}, {-1, 1, 9999, 1}, {-1, 2, 10000, 1},
            {0, 1, 1, 0}, {0, 10000, 10000, 0}};
        for (int[] c : cases) {
            BarcodeEngine x = new BarcodeEngine();
            Checks.scan(x, 10000, c[1], c[2], 5000, 1);
            Checks.due("smear by " + c[0] + " of " + c[1] + " and " + c[2], x.smear(0, c[0]), c[3]);
            Checks.due("the bar", x.width(0, 1), Math.max(1, Math.min(10000, c[1] + c[0])));
            Checks.due("the space", x.width(0, 2), Math.max(1, Math.min(10000, c[2] - c[0])));
            Checks.due("the first space", x.width(0, 0), 10000);
            Checks.due("the last space", x.width(0, 4), 1);
        }
        BarcodeEngine y = new BarcodeEngine();
        for (int i = 0; i < 43; i++) {
            y.addWidths(1, 1, 1, 0, 0, 0);
        }
        y.endScan();
        Checks.due("63 spaces of 129 widths", y.smear(0, 100), 63);
        Checks.due("64 bars of 129 widths", y.smear(0, -100), 0);
        Checks.due("64 bars of 129 widths", y.smear(0, -100), 64);
    }

    // Promise 14: "the mean of it and of the width with the same index of the other one, halves rounded
    // upwards"
    private static void average() {
        int[][] cases = {{1, 1, 1}, {1, 2, 2}, {2, 1, 2}, {1, 3, 2}, {1, 4, 3}, {10000, 10000, 10000}, {10000, 9999, 10000},
            {10000, 1, 5001}, {1, 10000, 5001}, {9999, 9998, 9999}};
        for (int[] c : cases) {
            BarcodeEngine x = new BarcodeEngine();
            Checks.scan(x, c[0], c[0], c[0]);
            Checks.scan(x, c[1], c[1], c[1]);
            x.average(0, 1);
            Checks.same("mean of " + c[0] + " and " + c[1], Checks.widths(x, 0), c[2] + " " + c[2] + " " + c[2]);
            Checks.same("the other one", Checks.widths(x, 1), c[1] + " " + c[1] + " " + c[1]);
        }
        BarcodeEngine y = new BarcodeEngine();
        Checks.print(y, 2, "A12345678901234B", 10, 0, 0);
        Checks.print(y, 2, "A12345678901234B", 20, 0, 0);
        Checks.print(y, 2, "A1234567890123B", 20, 0, 0);
        Checks.argument("129 and 121 widths", () -> {
            y.average(0, 2);
            return 0;
        });
        y.average(0, 1);
        Checks.due("the first one of 129", y.width(0, 0), 150);
        Checks.due("the last one of 129", y.width(0, 128), 150);
        Checks.due("a wide bar of 129", y.width(0, 127), 45);
    }

    // Promise 14: "number of a scan (it may be the same)"
    private static void averageWithItself() {
        BarcodeEngine x = new BarcodeEngine();
        Checks.scan(x, 1, 2, 3, 9999, 10000);
        x.average(0, 0);
        Checks.same("with itself", Checks.widths(x, 0), "1 2 3 9999 10000");
    }

    // Promise 15: "the numbers of the scans behind it decrease by 1"
    private static void removeScan() {
        for (int removed = 0; removed < 24; removed++) {
            BarcodeEngine x = new BarcodeEngine();
            for (int i = 0; i < 24; i++) {
                Checks.scan(x, 1 + i, 1, 1);
            }
            Checks.due("scans that are left", x.removeScan(removed), 23);
            for (int i = 0; i < 23; i++) {
                Checks.due("scan " + i, x.width(i, 0), i < removed ? 1 + i : 2 + i);
            }
            Checks.index("scan 23", () -> x.width(23, 0));
            Checks.due("a new scan", Checks.scan(x, 99, 1, 1), 23);
            Checks.due("a new scan", x.width(23, 0), 99);
            Checks.due("the one in front of it", x.width(22, 0), removed == 23 ? 23 : 24);
        }
        BarcodeEngine y = printed(1, "12", "3456");
        y.removeScan(0);
        Checks.same("the readings move along", Checks.whole(y, 0, 1), "3456");
        Checks.due("the last scan", y.removeScan(0), 0);
        Checks.due("no length", y.length(1), 0);
    }

    // ---- readings

    // Promise 16: "Returns the number of characters; 0 if no whole code is read."
    private static void read() {
        BarcodeEngine x = new BarcodeEngine();
        for (int count = 1; count <= 14; count++) {
            int scan = Checks.print(x, 2, "A" + "12345678901234".substring(0, count) + "B");
            Checks.due("Codabar", x.read(scan, 2), count + 2);
            Checks.due("not EAN-8", x.read(scan, 0), 0);
            Checks.due("not Interleaved", x.read(scan, 1), 0);
        }
        int head = Checks.head(x, "1234");
        Checks.due("a head is no whole code", x.read(head, 1), 0);
        int none = Checks.scan(x, 1, 1, 1);
        for (int symbology = 0; symbology < 3; symbology++) {
            Checks.due("nothing", x.read(none, symbology), 0);
        }
    }

    // Promise 17: "0 if there is none, or if a whole code is read"
    private static void readPart() {
        BarcodeEngine x = new BarcodeEngine();
        int whole = Checks.print(x, 1, "123456");
        int head = Checks.head(x, "123456");
        int tail = Checks.tail(x, "3456");
        int none = Checks.scan(x, 1, 1, 1);
        int[][] want = {{whole, 0, 0}, {head, 6, 0}, {tail, 0, 4}, {none, 0, 0}};
        for (int[] w : want) {
            Checks.due("head of " + w[0], x.readPart(w[0], 1, false), w[1]);
            Checks.due("tail of " + w[0], x.readPart(w[0], 1, true), w[2]);
            Checks.due("head of EAN-8", x.readPart(w[0], 0, false), 0);
            Checks.due("tail of Codabar", x.readPart(w[0], 2, true), 0);
        }
    }

    // Promises 18 and 19: "place in the code, from 0"; "Returns 0 to 100."
    private static void characterAndConfidence() {
        BarcodeEngine x = printed(2, "A12345678901234B");
        for (int place = 0; place < 16; place++) {
            Checks.due("character " + place, x.character(0, 2, place), "A12345678901234B".charAt(place));
            Checks.due("confidence " + place, x.confidence(0, 2, place), 100);
        }
        for (int place : new int[] {-1, 16, 17, LEAST, MOST}) {
            Checks.index("character " + place, () -> x.character(0, 2, place));
            Checks.index("confidence " + place, () -> x.confidence(0, 2, place));
        }
        BarcodeEngine y = printed(0, "12345670");
        Checks.set(y, 0, 4, 10, 10, 10, 10);
        Checks.due("the least confidence", y.confidence(0, 0, 0), 0);
        Checks.due("the greatest confidence", y.confidence(0, 0, 7), 100);
        Checks.index("place 8", () -> y.character(0, 0, 8));
    }

    // Promise 20: "place in the head or tail, from 0"
    private static void partCharacter() {
        BarcodeEngine x = new BarcodeEngine();
        int head = Checks.codabarHead(x, "A12345678901234");
        int tail = Checks.codabarTail(x, "12345678901234B");
        for (int place = 0; place < 15; place++) {
            Checks.due("head", x.partCharacter(head, 2, false, place), "A12345678901234".charAt(place));
            Checks.due("tail", x.partCharacter(tail, 2, true, place), "12345678901234B".charAt(place));
        }
        for (int place : new int[] {-1, 15, 16, LEAST, MOST}) {
            Checks.index("head " + place, () -> x.partCharacter(head, 2, false, place));
            Checks.index("tail " + place, () -> x.partCharacter(tail, 2, true, place));
        }
        Checks.index("no tail", () -> x.partCharacter(head, 2, true, 0));
        Checks.index("no head", () -> x.partCharacter(tail, 2, false, 0));
    }

    // Promise 21: "false if it is read as it is, or nothing is read"
    private static void isReversed() {
        BarcodeEngine x = new BarcodeEngine();
        int whole = Checks.print(x, 1, "1234");
        int head = Checks.head(x, "1234");
        int tail = Checks.tail(x, "1234");
        int none = Checks.scan(x, 1, 1, 1);
        for (int turn = 0; turn < 3; turn++) {
            Checks.due("a whole code", x.isReversed(whole, 1), turn == 1);
            Checks.due("a head", x.isReversed(head, 1), turn == 1);
            Checks.due("a tail", x.isReversed(tail, 1), turn == 1);
            Checks.due("nothing", x.isReversed(none, 1), false);
            Checks.due("nothing in this symbology", x.isReversed(whole, 2), false);
            for (int scan = 0; scan < 4; scan++) {
                x.reverse(scan);
            }
        }
    }

    // Promise 22: "NONE if one of the scans has no whole code, or they have different lengths"
    private static void agreement() {
        BarcodeEngine x = printed(2, "A1B", "A1B", "C2D", "A12B", "A12345678901234B", "A12345678901239B");
        int head = Checks.codabarHead(x, "A1");
        Checks.due("all places", x.agreement(0, 1, 2), 3);
        Checks.due("no place", x.agreement(0, 2, 2), 0);
        Checks.due("other lengths", x.agreement(0, 3, 2), NONE);
        Checks.due("other lengths", x.agreement(3, 0, 2), NONE);
        Checks.due("all places but one", x.agreement(4, 5, 2), 15);
        Checks.due("the same scan", x.agreement(5, 5, 2), 16);
        Checks.due("a head", x.agreement(0, head, 2), NONE);
        Checks.due("a head", x.agreement(head, 0, 2), NONE);
        Checks.due("a head twice", x.agreement(head, head, 2), NONE);
        Checks.due("another symbology", x.agreement(0, 1, 1), NONE);
    }

    // Promise 23: "the greatest o, from 0 on"; "NONE if there is no such head or tail"
    private static void overlap() {
        String[][] cases = {{"A1234", "567B", "0"}, {"A1234", "41234B", "1"}, {"A1234", "345B", "2"}, {"A1234", "234B", "3"},
            {"A1234", "1234B", "4"}, {"A1111", "11111111B", "4"}, {"A11111111", "11B", "2"}, {"A1212", "212B", "3"},
            {"A1212", "121B", "2"}, {"A1", "1B", "1"}, {"A1", "2B", "0"}, {"A12345678901234", "12345678901234B", "14"},
            {"A12345678901234", "34567890123456B", "12"}};
        for (String[] c : cases) {
            BarcodeEngine x = new BarcodeEngine();
            int head = Checks.codabarHead(x, c[0]);
            int tail = Checks.codabarTail(x, c[1]);
            Checks.due("overlap of " + c[0] + " and " + c[1], x.overlap(head, tail, 2), Integer.parseInt(c[2]));
            Checks.due("no head, no tail", x.overlap(tail, head, 2), NONE);
            Checks.due("no tail", x.overlap(head, head, 2), NONE);
            Checks.due("no head", x.overlap(tail, tail, 2), NONE);
        }
        // EAN-8: an overlap counts, though it is not used for merging.
        BarcodeEngine y = new BarcodeEngine();
        Checks.scan(y, "q" + EAN_LEFT + "q" + EAN_RIGHT + "q", 10);
        Checks.scan(y, "1 1411 1132 1231 1114 111 q", 10);
        Checks.due("1234 and 5670", y.overlap(0, 0, 0), 0);
        Checks.due("1234 and 3456", y.overlap(0, 1, 0), 2);
        // Interleaved 2 of 5: an odd overlap, and one that makes no code.
        BarcodeEngine z = new BarcodeEngine();
        int head = Checks.head(z, "123456");
        Checks.due("3 of them", z.overlap(head, Checks.tail(z, "4569"), 1), 3);
        Checks.due("1 of them", z.overlap(head, Checks.tail(z, "6789012345"), 1), 1);
        Checks.due("16 together", z.overlap(head, Checks.tail(z, "567890123456"), 1), 2);
    }

    // Promise 24: "100 * W / T, rounded down"
    private static void module() {
        // The code 12 has 27 modules: 4, 18 and 5.
        BarcodeEngine x = printed(1, "12");
        Checks.due("100 * 270 / 27", x.module(0, 1), 1000);
        x.setWidth(0, 17, 9);
        Checks.due("100 * 269 / 27 = 996.3", x.module(0, 1), 996);
        x.setWidth(0, 17, 11);
        Checks.due("100 * 271 / 27 = 1003.7", x.module(0, 1), 1003);
        x.setWidth(0, 0, 10000);
        x.setWidth(0, 18, 50);
        Checks.due("quiet zones don't count", x.module(0, 1), 1003);
        x.setWidth(0, 1, 11);
        Checks.due("the first bar counts", x.module(0, 1), 1007);
        // The least widths: A1B with 1 and 2, the greatest ones.
        BarcodeEngine y = new BarcodeEngine();
        Checks.scan(y, "q1122121 1 1111221 1 1212112 q", 1);
        Checks.same("A1B", Checks.whole(y, 0, 2), "A1B");
        Checks.due("100 * 31 / 39", y.module(0, 2), 79);
        BarcodeEngine z = printed(1, "12");
        for (int i = 0; i < 19; i++) {
            z.setWidth(0, i, z.width(0, i) == 30 ? 6000 : z.width(0, i) == 10 ? 2000 : 10000);
        }
        Checks.due("100 * 54,000 / 27", z.module(0, 1), 200000);
        BarcodeEngine w = printed(2, "A1B");
        w.setWidth(0, 8, 10000);
        w.setWidth(0, 16, 10000);
        Checks.due("gaps have 1: 100 * (370 + 20,000) / 39", w.module(0, 2), 52230);
    }

    // Promise 25: "rounded down (towards negative numbers, too)"
    private static void spread() {
        // The code 12: T = 27, 17 widths, 9 of them bars, U = 3 * 1 + ... = 17.
        int bars = 0;
        String modules = "11113113111133311";
        for (int i = 0; i < modules.length(); i += 2) {
            bars += modules.charAt(i) - '0';
        }
        for (int spread = -3; spread <= 3; spread++) {
            BarcodeEngine x = new BarcodeEngine();
            Checks.print(x, 1, "12", 10, spread, 0);
            long b = 10 * bars + 9 * spread;
            long w = 270 + 9 * spread - 8 * spread;
            long above = 100 * (b * 27 - w * bars);
            Checks.due("spread " + spread, x.spread(0, 1), Math.floorDiv(above, 9 * 27L));
        }
        BarcodeEngine x = printed(1, "12");
        Checks.due("none", x.spread(0, 1), 0);
        x.setWidth(0, 2, 11);
        int want = (int) Math.floor(100.0 * (10 * bars * 27 - 271 * bars) / (9 * 27));
        Checks.due("a little below 0", x.spread(0, 1), want);
        Checks.due("rounded downwards", want < -100.0 * bars / 243, true);
        x.setWidth(0, 2, 9);
        Checks.due("a little above 0", x.spread(0, 1), (int) (100.0 * bars / 243));
        x.reverse(0);
        Checks.due("in reverse", x.spread(0, 1), (int) (100.0 * bars / 243));
    }

    // Promises 24 and 25 of a code that does not stand in the middle of its scan, in reverse
    private static void moduleAndSpreadInReverse() {
        BarcodeEngine x = new BarcodeEngine();
        Checks.scan(x, "4 3 q 1111 3113111133 311 q 2 2 2 4", 10);
        Checks.scan(x, "q 1111 3113111133 311 q 9 9 9 9", 10);
        for (int scan = 0; scan < 2; scan++) {
            for (int turn = 0; turn < 2; turn++) {
                Checks.same("the code", Checks.seen(x, scan, 1), turn == 0 ? "12" : "<12");
                Checks.due("module", x.module(scan, 1), 1000);
                Checks.due("spread", x.spread(scan, 1), 0);
                x.reverse(scan);
            }
        }
        // The first bar and the last one are those of the code.
        x.setWidth(0, 3, 20);
        Checks.due("the first bar counts: 100 * 280 / 27", x.module(0, 1), 1037);
        x.setWidth(0, 19, 20);
        Checks.due("the last bar counts: 100 * 290 / 27", x.module(0, 1), 1074);
        int spread = x.spread(0, 1);
        x.reverse(0);
        Checks.due("in reverse", x.module(0, 1), 1074);
        Checks.due("in reverse", x.spread(0, 1), spread);
    }

    // Promise 25, with sums that do not fit into 32 bits
    private static void spreadOfGreatWidths() {
        BarcodeEngine x = new BarcodeEngine();
        Checks.print(x, 2, "A12345678901234B", 40, 0, 0);
        for (int gap = 8; gap < 128; gap += 8) {
            x.setWidth(0, gap, 10000);
        }
        long t = 0;
        long u = 0;
        for (int i = 1; i < 128; i++) {
            long modules = i % 8 == 0 ? 1 : x.width(0, i) / 40;
            t += modules;
            u += i % 2 == 1 ? modules : 0;
        }
        long w = 40 * (t - 15) + 150000;
        Checks.due("module", x.module(0, 2), 100 * w / t);
        Checks.due("spread", x.spread(0, 2), Math.floorDiv(100 * (40 * u * t - w * u), 64 * t));
        Checks.due("it is negative", x.spread(0, 2) < 0, true);
        // Bars as wide as they can be, spaces as narrow: B = 540,000, W = 560,063, T = 223, U = 152, n = 64, and
        // 100 * (B * T - W * U) is 3,529,042,400.
        BarcodeEngine y = new BarcodeEngine();
        Checks.print(y, 2, "A++++++++++++++B", 10, 0, 0);
        for (int i = 1; i < 128; i++) {
            boolean isWide = y.width(0, i) == 30;
            y.setWidth(0, i, i % 2 == 1 ? (isWide ? 10000 : 5000) : isWide ? 5001 : 1);
        }
        Checks.same("a code of great bars", Checks.whole(y, 0, 2), "A++++++++++++++B");
        Checks.due("100 * 560,063 / 223", y.module(0, 2), 251149);
        Checks.due("3,529,042,400 / (64 * 223)", y.spread(0, 2), 247270);
    }

    // Promise 26: "in EAN-8 8, if both have 4 digits"; "0 if there is no such head or tail, or they make no
    // code"
    private static void mergedEan() {
        String[] heads = {"q 111 2221 2122 1", "q 111 2221 2122 1411 1", "q" + EAN_LEFT + "1"};
        String[] tails = {"1 1312 3211 111 q", "1 1114 1312 3211 111 q", "1" + EAN_RIGHT + "q"};
        for (int i = 0; i < 3; i++) {
            for (int j = 0; j < 3; j++) {
                BarcodeEngine x = new BarcodeEngine();
                int head = Checks.scan(x, heads[i], 10);
                int tail = Checks.scan(x, tails[j], 10);
                Checks.due("head", x.readPart(head, 0, false), 2 + i);
                Checks.due("tail", x.readPart(tail, 0, true), 2 + j);
                Checks.due("merged", x.mergedLength(head, tail, 0), i == 2 && j == 2 ? 8 : 0);
                Checks.due("no head, no tail", x.mergedLength(tail, head, 0), 0);
                if (i < 2 || j < 2) {
                    Checks.index("no code", () -> x.mergedCharacter(head, tail, 0, 0));
                } else {
                    for (int place = 0; place < 8; place++) {
                        Checks.due("place " + place, x.mergedCharacter(head, tail, 0, place), "12345670".charAt(place));
                    }
                    Checks.index("place 8", () -> x.mergedCharacter(head, tail, 0, 8));
                    Checks.index("place -1", () -> x.mergedCharacter(head, tail, 0, -1));
                }
            }
        }
        BarcodeEngine y = new BarcodeEngine();
        Checks.scan(y, "q" + EAN_LEFT + "q" + EAN_RIGHT + "q", 10);
        Checks.due("it may be the same", y.mergedLength(0, 0, 0), 8);
        Checks.print(y, 0, "12345670");
        Checks.due("a whole code has no tail", y.mergedLength(0, 1, 0), 0);
        Checks.due("a whole code has no head", y.mergedLength(1, 0, 0), 0);
    }

    private static String merged(BarcodeEngine x, int head, int tail, int symbology) {
        StringBuilder text = new StringBuilder();
        int length = x.mergedLength(head, tail, symbology);
        for (int i = 0; i < length; i++) {
            text.append((char) x.mergedCharacter(head, tail, symbology, i));
        }
        Checks.index("behind the last place", () -> x.mergedCharacter(head, tail, symbology, length));
        Checks.index("before the first place", () -> x.mergedCharacter(head, tail, symbology, -1));
        return text.toString();
    }

    // Promises 26 and 27: "in the others, with the greatest o of at least 2 as in section 4"
    private static void mergedOthers() {
        String[][] codabar = {{"A1234", "456B", ""}, {"A1234", "345B", "A12345B"}, {"A1234", "1234B", "A1234B"},
            {"A1111", "111B", "A1111B"}, {"A11", "11B", "A11B"}, {"A1", "1B", ""}, {"A1234567890", "9012345B", ""},
            {"A123456789", "8901234B", "A12345678901234B"}, {"A12345678901234", "34B", "A12345678901234B"},
            {"A12345678901234", "12345678901234B", "A12345678901234B"}, {"A12345678901234", "345B", ""}};
        for (String[] c : codabar) {
            BarcodeEngine x = new BarcodeEngine();
            int head = Checks.codabarHead(x, c[0]);
            int tail = Checks.codabarTail(x, c[1]);
            Checks.same("merge of " + c[0] + " and " + c[1], merged(x, head, tail, 2), c[2]);
        }
        String[][] pairs = {{"1234", "5678", ""}, {"1234", "3456", "123456"}, {"1234", "1234", "1234"}, {"12", "12", "12"},
            {"9111", "1112", "911112"}, {"12345678", "78901234", "12345678901234"}, {"12345678", "7890123456", ""},
            {"1212", "1212", "1212"}, {"3121", "1214", ""}, {"12345678901234", "12345678901234", "12345678901234"}};
        for (String[] c : pairs) {
            BarcodeEngine x = new BarcodeEngine();
            int head = Checks.head(x, c[0]);
            int tail = Checks.tail(x, c[1]);
            Checks.same("merge of " + c[0] + " and " + c[1], merged(x, head, tail, 1), c[2]);
            Checks.same("no head, no tail", merged(x, tail, head, 1), "");
        }
        BarcodeEngine y = new BarcodeEngine();
        Checks.scan(y, "q 1111 3113111133 1131311313 99 1131311313 3113111133 311 q", 10);
        Checks.same("it may be the same", merged(y, 0, 0, 1), "126712");
    }

    // Promise 28: "whose least confidence of a character is greatest, of several the lowest one"
    private static void bestScan() {
        BarcodeEngine x = new BarcodeEngine();
        Checks.element("no scan", () -> x.bestScan(2));
        Checks.codabarHead(x, "A12");
        Checks.element("no whole code", () -> x.bestScan(2));
        for (int i = 1; i <= 3; i++) {
            Checks.print(x, 2, "A1B", 40, 0, 0);
            x.setWidth(i, 9, 79);
            Checks.due("150 * 41 / 120", x.confidence(i, 2, 1), 51);
        }
        Checks.due("the lowest one of 51", x.bestScan(2), 1);
        x.setWidth(1, 9, 80);
        Checks.due("50 is less", x.bestScan(2), 2);
        x.setWidth(3, 9, 78);
        Checks.due("52 is more", x.bestScan(2), 3);
        x.setWidth(3, 17, 80);
        Checks.due("the least one counts", x.bestScan(2), 2);
        x.setWidth(2, 1, 80);
        Checks.print(x, 2, "A12B");
        Checks.due("of any length", x.bestScan(2), 4);
        BarcodeEngine y = new BarcodeEngine();
        Checks.print(y, 0, "12345670");
        Checks.set(y, 0, 4, 10, 10, 10, 10);
        Checks.due("confidence 0", y.bestScan(0), 0);
    }

    // ---- votes

    // Promise 29: "0 if there is none"
    private static void length() {
        BarcodeEngine x = new BarcodeEngine();
        for (int symbology = 0; symbology < 3; symbology++) {
            Checks.due("no scan", x.length(symbology), 0);
        }
        Checks.print(x, 1, "12");
        Checks.print(x, 2, "A1B");
        Checks.due("the least length", x.length(1), 2);
        Checks.due("the least length", x.length(2), 3);
        Checks.due("none", x.length(0), 0);
        BarcodeEngine y = new BarcodeEngine();
        Checks.print(y, 1, "12345678901234");
        Checks.print(y, 2, "A12345678901234B");
        Checks.due("the greatest length", y.length(1), 14);
        Checks.due("the greatest length", y.length(2), 16);
        y.removeScan(0);
        Checks.due("none any more", y.length(1), 0);
    }

    // Promise 30: "a character, or NONE for all characters together"
    private static void weight() {
        BarcodeEngine x = printed(2, "A1B", "A-B", "A-B");
        Checks.due("all", x.weight(2, 1, NONE), 303);
        for (int character = -3; character <= 300; character++) {
            int want = character == NONE ? 303 : character == '1' ? 101 : character == '-' ? 202 : 0;
            Checks.due("weight of " + character, x.weight(2, 1, character), want);
            if (character != NONE) {
                Checks.due("weight of " + character, x.weight(2, 0, character), character == 'A' ? 303 : 0);
            }
        }
        for (int character : new int[] {LEAST, MOST, '1' + 256, '1' + 65536, '1' - 65536, '-' + 128}) {
            Checks.due("weight of " + character, x.weight(2, 1, character), 0);
        }
        // The value of a character is no character.
        for (int value = 0; value < 20; value++) {
            Checks.due("weight of " + value, x.weight(2, 0, value), 0);
            Checks.due("weight of " + value, x.weight(2, 1, value), 0);
        }
    }

    // Promise 31: "NONE if no character has the majority"
    private static void voted() {
        for (int value = 0; value < 20; value++) {
            char c = VALUES.charAt(value);
            BarcodeEngine x = printed(2, value < 16 ? "A" + c + "B" : c + "1B");
            Checks.due("the only one", x.voted(2, value < 16 ? 1 : 0), c);
            Checks.print(x, 2, value < 16 ? "A" + (c == '1' ? '2' : '1') + "B" : (c == 'D' ? 'C' : 'D') + "1B");
            Checks.due("the half", x.voted(2, value < 16 ? 1 : 0), NONE);
            Checks.due("another place", x.voted(2, 2), 'B');
        }
    }

    // Promise 32: "ordered by descending weight, equal ones by ascending ASCII code"; "NONE if fewer than
    // two characters have votes"
    private static void runnerUp() {
        String ascii = "$+-./0123456789:";
        for (int i = 0; i < 16; i++) {
            for (int k = 0; k < 16; k++) {
                BarcodeEngine x = printed(2, "A" + ascii.charAt(i) + "A", "A" + ascii.charAt(k) + "A");
                Checks.due("of two equal ones", x.runnerUp(2, 1), i == k ? NONE : ascii.charAt(Math.max(i, k)));
            }
        }
        BarcodeEngine y = printed(1, "12", "12");
        Checks.due("one character", y.runnerUp(1, 0), NONE);
        Checks.print(y, 1, "32");
        Checks.due("two characters", y.runnerUp(1, 0), '3');
        Checks.print(y, 1, "02");
        Checks.due("0 and 3 are equal", y.runnerUp(1, 0), '0');
        Checks.print(y, 1, "32");
        Checks.due("1 and 3 are equal, and first", y.runnerUp(1, 0), '3');
        Checks.print(y, 1, "32");
        Checks.due("3, then 1", y.runnerUp(1, 0), '1');
        BarcodeEngine z = new BarcodeEngine();
        Checks.scan(z, "q 111 2221 2122 q 1114 1312 3211 111 q", 10);
        Checks.due("no votes", z.runnerUp(0, 3), NONE);
        // The least weight is 1.
        BarcodeEngine w = printed(0, "00000000", "12345670");
        Checks.set(w, 1, 4, 10, 10, 10, 10);
        Checks.due("weight 1", w.weight(0, 0, '1'), 1);
        Checks.due("it is second", w.runnerUp(0, 0), '1');
        w.removeScan(0);
        Checks.due("it is first", w.runnerUp(0, 0), NONE);
        Checks.print(w, 0, "22345670");
        Checks.set(w, 1, 4, 3, 3, 3, 5);
        Checks.due("it is second again", w.runnerUp(0, 0), '1');
    }

    // Promise 33: 0 to 3, the first problem
    private static void problem() {
        BarcodeEngine x = new BarcodeEngine();
        Checks.due("no length", x.problem(0), 1);
        Checks.print(x, 0, "12345671");
        Checks.due("no right check", x.problem(0), 3);
        Checks.print(x, 0, "12345672");
        Checks.due("no majority before no right check", x.problem(0), 2);
        x.setCheck(0, false);
        Checks.due("no majority", x.problem(0), 2);
        Checks.print(x, 0, "12345672");
        Checks.due("accepted with the check off", x.problem(0), 0);
        x.setCheck(0, true);
        Checks.due("no right check", x.problem(0), 3);
        Checks.print(x, 0, "12345670");
        Checks.print(x, 0, "12345670");
        Checks.print(x, 0, "12345670");
        Checks.due("just the half", x.problem(0), 2);
        Checks.print(x, 0, "12345670");
        Checks.due("accepted", x.problem(0), 0);
    }

    // Promise 34: "Finds the first place without a majority."; "NONE if there is no length or no such place"
    private static void doubtful() {
        Checks.due("no length", new BarcodeEngine().doubtful(2), NONE);
        Checks.due("no such place", printed(2, "A12345678901234B").doubtful(2), NONE);
        for (int place = 0; place < 16; place++) {
            for (int other = place; other < 16; other += 5) {
                StringBuilder text = new StringBuilder("A12345678901234B");
                for (int at : new int[] {place, other}) {
                    text.setCharAt(at, at == 0 || at == 15 ? 'C' : '+');
                }
                Checks.due("places " + place + ", " + other,
                    printed(2, "A12345678901234B", text.toString()).doubtful(2), place);
            }
        }
    }

    // Promise 35: "one of 0123456789-$:/.+ at an inner place, one of A, B, C, D at the first and the last
    // place"; "(whether the check is on or off)"
    private static void repaired() {
        for (int place = 0; place < 8; place++) {
            StringBuilder one = new StringBuilder("12345670");
            StringBuilder two = new StringBuilder("12345670");
            one.setCharAt(place, (char) ('0' + (one.charAt(place) - '0' + 1) % 10));
            two.setCharAt(place, (char) ('0' + (two.charAt(place) - '0' + 2) % 10));
            BarcodeEngine x = printed(0, one.toString(), two.toString());
            Checks.due("place " + place, x.repaired(0), "12345670".charAt(place));
            x.setCheck(0, false);
            Checks.due("with the check off", x.repaired(0), "12345670".charAt(place));
        }
        // A0A is right; the sum of the others is 32 - v, and 16 to 19 are the letters.
        for (int rest = 0; rest < 16; rest++) {
            char c = VALUES.charAt(rest);
            BarcodeEngine first = printed(2, "A" + c + "A", "B" + c + "A");
            BarcodeEngine last = printed(2, "A" + c + "A", "A" + c + "B");
            int letter = 16 + (16 - rest) % 16;
            if (letter < 20) {
                Checks.due("the first place", first.repaired(2), VALUES.charAt(letter));
                Checks.due("the last place", last.repaired(2), VALUES.charAt(letter));
            } else {
                Checks.element("the first place", () -> first.repaired(2));
                Checks.element("the last place", () -> last.repaired(2));
            }
            BarcodeEngine inner = printed(2, "A1" + c + "A", "A2" + c + "A");
            Checks.due("an inner place", inner.repaired(2), VALUES.charAt((16 - rest) % 16));
            inner.setCheck(2, true);
            Checks.due("with the check on", inner.repaired(2), VALUES.charAt((16 - rest) % 16));
        }
        BarcodeEngine x = printed(2, "A1A", "B1C");
        Checks.state("two places", () -> x.repaired(2));
        x.removeScan(0);
        Checks.state("no place", () -> x.repaired(2));
        x.removeScan(0);
        Checks.state("no length", () -> x.repaired(2));
    }

    // Promise 36: "NONE if no code is accepted"; "of equal ones the lowest one"
    private static void winner() {
        String[] codes = {"12345670", "1236", "A0A"};
        for (int bits = 0; bits < 8; bits++) {
            BarcodeEngine x = new BarcodeEngine();
            int want = NONE;
            for (int symbology = 2; symbology >= 0; symbology--) {
                if ((bits >> symbology & 1) == 1) {
                    Checks.print(x, symbology, codes[symbology]);
                    want = symbology;
                }
            }
            Checks.due("symbologies " + bits, x.winner(), want);
            for (int symbology = 0; symbology < 3; symbology++) {
                x.setCheck(symbology, true);
            }
            Checks.due("symbologies with right checks " + bits, x.winner(), want);
        }
        BarcodeEngine y = printed(0, "12345671");
        Checks.due("no right check", y.winner(), NONE);
        Checks.print(y, 1, "12");
        Checks.print(y, 1, "13");
        Checks.due("no majority", y.winner(), NONE);
    }

    // Promise 36: "The share of a symbology is the least, over all places, of 100 * (weight of the voted
    // character) / (weight of all characters), rounded down."
    private static void winnerShares() {
        for (int place = 0; place < 8; place++) {
            // EAN-8 with the share 66 at one place, and Interleaved 2 of 5 with 75. (52 is chosen because no
            // part of EAN-8 is read from it, as it is from 32.)
            BarcodeEngine x = printed(0, "00000000", "00000000");
            StringBuilder text = new StringBuilder("00000000");
            text.setCharAt(place, '5');
            Checks.print(x, 0, text.toString());
            for (String pair : new String[] {"12", "12", "12", "52"}) {
                Checks.print(x, 1, pair);
            }
            Checks.due("66 and 75", x.winner(), 1);
            Checks.print(x, 1, "52");
            Checks.due("66 and 60", x.winner(), 0);
            Checks.print(x, 1, "12");
            Checks.due("66 and 66", x.winner(), 0);
        }
        roundedShares();
        sharesOf99And100();
    }

    private static void sharesOf99And100() {
        // 101 of 102 is 99, and 101 of 101 is 100.
        BarcodeEngine x = printed(0, "00000000", "00000000");
        Checks.set(x, 1, 4, 10, 10, 10, 10);
        Checks.due("weight 1", x.weight(0, 0, '1'), 1);
        Checks.due("EAN-8 alone", x.winner(), 0);
        Checks.print(x, 2, "A1B");
        Checks.due("99 and 100", x.winner(), 2);
        x.removeScan(1);
        Checks.due("100 and 100", x.winner(), 0);
    }

    private static void roundedShares() {
        // 202 of 303 is 66.67 in EAN-8 or in Interleaved 2 of 5; in Codabar 101 of 149 to 153 are 67.8, 67.3,
        // 66.9, 66.4 and 66.01: those of 66 are equal.
        int[][] cases = {{80, 117, 48, 2}, {80, 118, 49, 2}, {80, 119, 50, NONE}, {80, 120, 51, NONE}, {79, 120, 52, NONE}};
        for (int[] c : cases) {
            for (int other = 0; other < 2; other++) {
                BarcodeEngine x = other == 0 ? printed(0, "00000000", "00000000", "00000005") : printed(1, "12", "12", "52");
                Checks.print(x, 2, "A1B", 40, 0, 0);
                Checks.print(x, 2, "A2B", 40, 0, 0);
                x.setWidth(4, 9, c[0]);
                x.setWidth(4, 12, c[1]);
                Checks.due("weight", x.weight(2, 1, '2'), c[2]);
                Checks.due("66 and 101 with " + c[2], x.winner(), c[3] == NONE ? other : c[3]);
            }
        }
        // The other way round: 101 of 153 in Interleaved 2 of 5, and 202 of 303 in Codabar.
        BarcodeEngine y = printed(2, "A1B", "A1B", "A2B");
        Checks.print(y, 1, "12", 40, 0, 0);
        Checks.print(y, 1, "52", 40, 0, 0);
        y.setWidth(4, 7, 79);
        Checks.due("weight", y.weight(1, 0, '5'), 52);
        Checks.due("66 and 66", y.winner(), 1);
        y.setWidth(4, 7, 77);
        Checks.due("weight", y.weight(1, 0, '5'), 54);
        Checks.due("65 and 66", y.winner(), 2);
    }

    // Promise 37: "the one with the most characters that do not have the majority at their places, of
    // several the lowest one"
    private static void worstScan() {
        BarcodeEngine x = printed(2, "A12B", "A12B", "A12B");
        Checks.due("all without one: the lowest one", x.worstScan(2), 0);
        Checks.print(x, 2, "A13B");
        Checks.due("one character", x.worstScan(2), 3);
        Checks.print(x, 2, "A32B");
        Checks.due("one character each", x.worstScan(2), 3);
        Checks.print(x, 2, "C12D");
        Checks.due("two characters", x.worstScan(2), 5);
        Checks.print(x, 2, "D44C");
        Checks.due("all characters", x.worstScan(2), 6);
        Checks.print(x, 2, "D1234567C");
        Checks.codabarHead(x, "D44");
        Checks.due("of the length of the symbology", x.worstScan(2), 6);
        x.removeScan(6);
        x.removeScan(5);
        Checks.print(x, 2, "D9C");
        Checks.due("no shorter code, though three differ", x.worstScan(2), 3);
        BarcodeEngine y = printed(2, "A1B", "A2B");
        Checks.due("no majority: it counts for both", y.worstScan(2), 0);
        Checks.print(y, 2, "C2B");
        Checks.due("1 of 3", y.worstScan(2), 0);
        Checks.print(y, 2, "C1B");
        Checks.due("no majorities", y.worstScan(2), 0);
        BarcodeEngine z = new BarcodeEngine();
        Checks.element("no scan", () -> z.worstScan(2));
        Checks.codabarHead(z, "A123");
        Checks.codabarTail(z, "234B");
        Checks.due("a length", z.length(2), 6);
        Checks.element("no whole code", () -> z.worstScan(2));
    }

    // Promise 38: "Returns whether it was on."
    private static void setCheck() {
        for (int symbology = 0; symbology < 3; symbology++) {
            BarcodeEngine x = new BarcodeEngine();
            Checks.due("at first", x.setCheck(symbology, true), symbology == 0);
            Checks.due("on", x.setCheck(symbology, true), true);
            Checks.due("still on", x.setCheck(symbology, false), true);
            Checks.due("off", x.setCheck(symbology, false), false);
            Checks.due("still off", x.setCheck(symbology, true), false);
            for (int other = 0; other < 3; other++) {
                if (other != symbology) {
                    Checks.due("the others stay", x.setCheck(other, false), other == 0);
                }
            }
        }
    }

    // "An object is used for at most 512 calls": the last ones are answered like the first ones.
    private static void call512() {
        BarcodeEngine x = new BarcodeEngine();
        for (int round = 0; round < 126; round++) {
            x.append(0x31323334, 0x35363730, 0, 0, 0);
            Checks.due("a scan", x.print(0, 8, 10, 0, round), 0);
            Checks.due("its length", x.length(0), 8);
            Checks.due("no scan", x.removeScan(0), 0);
        }
        // 504 calls until here.
        x.append(0x31323334, 0x35363730, 0, 0, 0);
        x.addWidths(1, 2, 3, 0, 0, 0);
        Checks.due("call 507", x.endScan(), 0);
        Checks.due("call 508", x.print(0, 8, 10, 0, 0), 1);
        Checks.due("call 509", x.length(0), 8);
        Checks.due("call 510", x.voted(0, 7), '0');
        Checks.due("call 511", x.width(1, 44), 100);
        Checks.due("call 512", x.winner(), 0);
    }
}
