/**
 * Sections 1 and 2 of the description: each sentence that names a boundary (it stands above the
 * test, shortened), with the last value on either side of it.
 */
public final class CharacterEdgesTest {
    private static final int NONE = BarcodeEngine.NONE;
    private static final int LEAST = Integer.MIN_VALUE;
    private static final int MOST = Integer.MAX_VALUE;
    private static final String EAN_CODE = "12345670";
    private static final String INNER = "0123456789-$:/.+";

    public static void main(String[] args) {
        threeTo129Widths();
        anOddNumberOfWidths();
        widthsFromOneTo10000();
        firstAndLastAreSpaces();
        twentyFourScans();
        threeSymbologies();
        eightDigits();
        evenNumberOfDigits();
        oneToFourteenCharacters();
        lettersOutside();
        signsBesideTheAlphabets();
        eanTable();
        eanGuards();
        interleavedTable();
        interleavedGuards();
        codabarTable();
        gapsBetweenTwoCharacters();
        eanRounding();
        eanNearThreeSevenths();
        eanGreatestWidths();
        eanConfidence();
        eanConfidenceRoundedDown();
        tooAlikeToBeRead();
        moreThanTheMiddle();
        onlySomeWidthsTogether();
        noSuchPair();
        noSuchCodabar();
        confidenceAtMost100();
        confidenceFrom0();
        bothDigitsOfAPair();
        Checks.end("CharacterEdgesTest");
    }

    private static void add(BarcodeEngine x, int count) {
        for (int i = 0; i < count; i++) {
            x.addWidths(1 + i % 9, 0, 0, 0, 0, 0);
        }
    }

    // ---- section 1

    // "A scan is a row of 3 to 129 widths"
    private static void threeTo129Widths() {
        BarcodeEngine x = new BarcodeEngine();
        Checks.state("a scan of 0 widths", () -> x.endScan());
        add(x, 1);
        Checks.state("a scan of 1 width", () -> x.endScan());
        add(x, 2);
        Checks.due("a scan of 3 widths", x.endScan(), 0);
        Checks.due("a scan of 3 widths", x.widthCount(0), 3);
        add(x, 129);
        Checks.due("a scan of 129 widths", x.endScan(), 1);
        Checks.due("a scan of 129 widths", x.widthCount(1), 129);
        Checks.due("its last width", x.width(1, 128), 1 + 128 % 9);
        Checks.index("no width behind it", () -> x.width(1, 129));
        add(x, 129);
        Checks.state("130 widths", () -> x.addWidths(1, 0, 0, 0, 0, 0));
        Checks.due("129 widths stay", x.addWidths(0, 0, 0, 0, 0, 0), 129);
    }

    // "an odd number of them"
    private static void anOddNumberOfWidths() {
        for (int count = 1; count <= 129; count++) {
            BarcodeEngine x = new BarcodeEngine();
            add(x, count);
            if (count % 2 == 0 || count < 3) {
                Checks.state("a scan of " + count, () -> x.endScan());
                Checks.due("no scan of " + count, x.scanCount(), 0);
                Checks.due("still pending", x.addWidths(0, 0, 0, 0, 0, 0), count);
            } else {
                Checks.due("a scan of " + count, x.endScan(), 0);
                Checks.due("widths of " + count, x.widthCount(0), count);
            }
        }
    }

    // "each width is 1 to 10,000"
    private static void widthsFromOneTo10000() {
        BarcodeEngine x = new BarcodeEngine();
        Checks.due("the least and the greatest width", x.addWidths(1, 10000, 1, 10000, 10000, 0), 5);
        Checks.argument("10,001", () -> x.addWidths(10001, 0, 0, 0, 0, 0));
        Checks.argument("-1", () -> x.addWidths(-1, 0, 0, 0, 0, 0));
        Checks.due("0 is no width", x.addWidths(0, 0, 0, 0, 0, 0), 5);
        x.endScan();
        Checks.same("they are kept", Checks.widths(x, 0), "1 10000 1 10000 10000");
        Checks.argument("0", () -> x.setWidth(0, 0, 0));
        Checks.argument("10,001", () -> x.setWidth(0, 0, 10001));
        Checks.due("10,000", x.setWidth(0, 0, 10000), 1);
        Checks.due("1", x.setWidth(0, 0, 1), 10000);
        x.smear(0, 100);
        Checks.same("not above 10,000, not below 1", Checks.widths(x, 0), "1 10000 1 10000 10000");
    }

    // "They belong to spaces and bars in turn; the first and the last one are spaces."
    private static void firstAndLastAreSpaces() {
        BarcodeEngine x = new BarcodeEngine();
        Checks.scan(x, 200, 200, 200, 200, 200, 200, 200);
        x.smear(0, 7);
        Checks.same("bars at 1, 3, 5", Checks.widths(x, 0), "200 207 193 207 193 207 200");
    }

    // "There are at most 24 scans, numbered from 0."
    private static void twentyFourScans() {
        BarcodeEngine x = new BarcodeEngine();
        for (int i = 0; i < 24; i++) {
            int number = i;
            Checks.index("scan " + i + " does not exist", () -> x.widthCount(number));
            Checks.due("scan", i % 2 == 0 ? Checks.scan(x, 1 + i, 1, 1) : Checks.print(x, 1, "12"), i);
            Checks.due("its first width", x.width(i, 0), i % 2 == 0 ? 1 + i : 100);
        }
        Checks.due("24 scans", x.scanCount(), 24);
        Checks.index("scan 24", () -> x.widthCount(24));
        Checks.put(x, "12");
        add(x, 3);
        Checks.state("a 25th printed one", () -> x.print(1, 2, 10, 0, 0));
        Checks.state("a 25th one of widths", () -> x.endScan());
        Checks.due("24 scans", x.scanCount(), 24);
        x.removeScan(0);
        Checks.due("the 24th again", x.endScan(), 23);
        Checks.state("a 25th printed one", () -> x.print(1, 2, 10, 0, 0));
        x.removeScan(23);
        Checks.due("the 24th again", x.print(1, 2, 10, 0, 0), 23);
    }

    // "The symbologies are 0 EAN-8, 1 Interleaved 2 of 5 and 2 Codabar."
    private static void threeSymbologies() {
        BarcodeEngine x = new BarcodeEngine();
        Checks.print(x, 0, EAN_CODE);
        Checks.print(x, 1, "1234");
        Checks.print(x, 2, "A1B");
        int[] lengths = {8, 4, 3};
        for (int scan = 0; scan < 3; scan++) {
            for (int symbology = 0; symbology < 3; symbology++) {
                Checks.due("read", x.read(scan, symbology), scan == symbology ? lengths[scan] : 0);
            }
        }
        for (int symbology : new int[] {-1, 3, LEAST, MOST}) {
            Checks.index("symbology " + symbology, () -> x.read(0, symbology));
            Checks.index("symbology " + symbology, () -> x.length(symbology));
        }
    }

    private static void isCode(int symbology, String text, boolean want) {
        BarcodeEngine x = new BarcodeEngine();
        Checks.put(x, text);
        if (want) {
            Checks.due("print of " + text, x.print(symbology, text.length(), 10, 0, 0), 0);
            Checks.same("read", Checks.whole(x, 0, symbology), text);
        } else {
            Checks.argument("print of " + text, () -> x.print(symbology, text.length(), 10, 0, 0));
        }
    }

    // "in EAN-8 8 digits"
    private static void eightDigits() {
        for (int count = 0; count <= 20; count++) {
            isCode(0, "12345670123456701234".substring(0, count), count == 8);
        }
    }

    // "in Interleaved 2 of 5 an even number of digits, 2 to 14"
    private static void evenNumberOfDigits() {
        for (int count = 0; count <= 20; count++) {
            isCode(1, "12345678901234567890".substring(0, count), count >= 2 && count <= 14 && count % 2 == 0);
        }
    }

    // "one of the letters A, B, C, D, then 1 to 14 of the characters 0123456789-$:/.+, then again
    // one of the letters A, B, C, D (3 to 16 characters together)"
    private static void oneToFourteenCharacters() {
        isCode(2, "", false);
        isCode(2, "A", false);
        for (int count = 0; count <= 18; count++) {
            isCode(2, "A" + "123456789012345678".substring(0, count) + "B", count >= 1 && count <= 14);
        }
    }

    private static void lettersOutside() {
        for (char c : "ABCD".toCharArray()) {
            isCode(2, c + "1A", true);
            isCode(2, "A1" + c, true);
            isCode(2, "A" + c + "B", false);
            isCode(2, "A1" + c + "2B", false);
            isCode(2, "A" + c + "1B", false);
            isCode(2, "A1" + c + "B", false);
        }
        for (char c : INNER.toCharArray()) {
            isCode(2, "A" + c + "B", true);
            isCode(2, c + "1B", false);
            isCode(2, "A1" + c, false);
        }
    }

    // Bytes next to those that a code can have, and those that are far away.
    private static void signsBesideTheAlphabets() {
        for (int sign = 0; sign < 256; sign++) {
            String c = "" + (char) sign;
            boolean isDigit = sign >= '0' && sign <= '9';
            isCode(0, "1234567" + c, isDigit);
            isCode(1, c + "1", isDigit);
            isCode(1, "1" + c, isDigit);
            isCode(2, "A" + c + "B", INNER.contains(c));
            isCode(2, c + "1B", sign >= 'A' && sign <= 'D');
            isCode(2, "A1" + c, sign >= 'A' && sign <= 'D');
        }
    }

    private static String modules(String text) {
        StringBuilder widths = new StringBuilder();
        for (char c : text.replace(" ", "").toCharArray()) {
            widths.append(widths.length() == 0 ? "" : " ").append(10 * (c == 'q' ? 10 : c - '0'));
        }
        return widths.toString();
    }

    private static void prints(int symbology, String text, String modules) {
        BarcodeEngine x = new BarcodeEngine();
        Checks.print(x, symbology, text);
        Checks.same("print of " + text, Checks.widths(x, 0), modules(modules));
        Checks.same("read", Checks.whole(x, 0, symbology), text);
    }

    private static final String[] EAN = {"3211", "2221", "2122", "1411", "1132", "1231", "1114", "1312", "1213", "3112"};

    // "The widths of the digits are: 0: 3 2 1 1, ..."
    private static void eanTable() {
        for (int digit = 0; digit < 10; digit++) {
            for (int place = 0; place < 8; place++) {
                StringBuilder text = new StringBuilder("00000000");
                text.setCharAt(place, (char) ('0' + digit));
                BarcodeEngine x = new BarcodeEngine();
                Checks.print(x, 0, text.toString());
                int from = 4 + 4 * place + (place >= 4 ? 5 : 0);
                for (int i = 0; i < 4; i++) {
                    Checks.due("a width of " + digit, x.width(0, from + i), 10 * (EAN[digit].charAt(i) - '0'));
                }
                Checks.same("read", Checks.whole(x, 0, 0), text.toString());
            }
        }
    }

    // "guard 1 1 1; 4 digits of 4 widths; middle 1 1 1 1 1; 4 digits of 4 widths; guard 1 1 1"
    private static void eanGuards() {
        prints(0, "66666666", "q 111 1114111411141114 11111 1114111411141114 111 q");
        prints(0, "33333333", "q 111 1411141114111411 11111 1411141114111411 111 q");
    }

    private static final String[] PAIRS = {
        "11331", "31113", "13113", "33111", "11313", "31311", "13311", "11133", "31131", "13131"};

    // "the 5 bars are those of the first digit, the 5 spaces between and behind them those of the
    // second one"
    private static void interleavedTable() {
        for (int first = 0; first < 10; first++) {
            for (int second = 0; second < 10; second++) {
                StringBuilder modules = new StringBuilder("q 1111 ");
                for (int i = 0; i < 5; i++) {
                    modules.append(PAIRS[first].charAt(i)).append(PAIRS[second].charAt(i));
                }
                prints(1, "" + first + second, modules + " 311 q");
            }
        }
    }

    // "start 1 1 1 1, beginning with a bar; ... stop 3 1 1"
    private static void interleavedGuards() {
        BarcodeEngine x = new BarcodeEngine();
        for (int count = 2; count <= 14; count += 2) {
            int scan = Checks.print(x, 1, "00000000000000".substring(0, count));
            Checks.due("widths", x.widthCount(scan), 2 + 4 + 5 * count + 3);
        }
    }

    private static final String[] CODABAR = {"1111133", "1111331", "1113113", "3311111", "1131131", "3111131", "1311113",
        "1311311", "1331111", "3113111", "1113311", "1133111", "3111313", "3131113", "3131311", "1131313",
        "1133131", "1313113", "1113133", "1113331"};

    // "The widths of the characters, 1 written as n and 3 as w, are: 0 nnnnnww, ..."
    private static void codabarTable() {
        for (int i = 0; i < 16; i++) {
            prints(2, "A" + INNER.charAt(i) + "B", "q" + CODABAR[16] + 1 + CODABAR[i] + 1 + CODABAR[17] + "q");
        }
        for (int i = 0; i < 4; i++) {
            prints(2, "ABCD".charAt(i) + "0" + "DCBA".charAt(i),
                "q" + CODABAR[16 + i] + 1 + CODABAR[0] + 1 + CODABAR[19 - i] + "q");
        }
    }

    // "between two characters there is a space of 1 module, the gap"
    private static void gapsBetweenTwoCharacters() {
        BarcodeEngine x = new BarcodeEngine();
        Checks.print(x, 2, "A1B");
        Checks.due("the shortest code: two gaps", x.widthCount(0), 2 + 3 * 7 + 2);
        Checks.print(x, 2, "A12345678901234B");
        Checks.due("the longest code: 15 gaps", x.widthCount(1), 2 + 16 * 7 + 15);
        for (int gap = 8; gap < 128; gap += 8) {
            Checks.due("a gap", x.width(1, gap), 10);
        }
    }

    // ---- section 2: the digits of EAN-8

    private static int eanDigit(int e, int f, boolean isMuch) {
        int[] keys = {53, 55, 24, 35, 22, 42};
        int[] digits = {0, 3, 4, 5, 6, 9};
        for (int i = 0; i < keys.length; i++) {
            if (keys[i] == 10 * e + f) {
                return digits[i];
            }
        }
        return e == 4 && f == 4 ? (isMuch ? 1 : 7) : e == 3 && f == 3 ? (isMuch ? 2 : 8) : NONE;
    }

    /** The first digit of a code gets four widths with the sum 1400, so that 7 / S is 1 / 200. */
    private static void digitOfWidths(BarcodeEngine x, int ab, int bc, int b) {
        int a = ab - b;
        int c = bc - b;
        Checks.set(x, 0, 4, a, b, c, 1400 - ab - c);
        int e = (ab + 100) / 200;
        int f = (bc + 100) / 200;
        int digit = eanDigit(e, f, a + c >= 600);
        String what = "widths " + a + " " + b + " " + c + " " + (1400 - ab - c);
        if (digit == NONE) {
            Checks.due(what + " cannot be read", x.read(0, 0), 0);
            return;
        }
        int r = Math.max(Math.abs(ab - 200 * e), Math.abs(bc - 200 * f));
        Checks.due(what, x.read(0, 0), 8);
        Checks.due(what, x.read(0, 0) == 8 ? x.character(0, 0, 0) : NONE, '0' + digit);
        Checks.due("confidence of " + what, x.read(0, 0) == 8 ? x.confidence(0, 0, 0) : NONE, 100 - r);
    }

    // "e be 7 * (a + b) / S and f be 7 * (b + c) / S, each rounded to the nearest whole number,
    // halves upwards": with S = 1400, 100 is 0.5, and 99 is less; for each pair of e and f
    private static void eanRounding() {
        int[] edges = {2, 99, 100, 299, 300, 499, 500, 699, 700, 899, 900, 1099, 1100, 1299, 1300, 1398};
        int[] middles = {200, 400, 600, 800, 1000, 1200};
        for (int ab : edges) {
            BarcodeEngine x = new BarcodeEngine();
            Checks.print(x, 0, EAN_CODE, 40, 0, 0);
            for (int bc : edges) {
                between(x, ab, bc);
            }
        }
        for (int ab : middles) {
            BarcodeEngine x = new BarcodeEngine();
            Checks.print(x, 0, EAN_CODE, 40, 0, 0);
            for (int i = 0; i < middles.length; i++) {
                between(x, ab, middles[i]);
                between(x, ab, edges[2 * i + 2]);
                between(x, ab, edges[2 * i + 1]);
            }
        }
    }

    private static void between(BarcodeEngine x, int ab, int bc) {
        int least = Math.max(1, ab + bc - 1399);
        int most = Math.min(ab, bc) - 1;
        if (least <= most) {
            digitOfWidths(x, ab, bc, least);
            digitOfWidths(x, ab, bc, most);
        }
    }

    // "4 4: 1 if 7 * (a + c) >= 3 * S, otherwise 7; 3 3: 2 if 7 * (a + c) >= 3 * S, otherwise 8"
    private static void eanNearThreeSevenths() {
        BarcodeEngine x = new BarcodeEngine();
        Checks.print(x, 0, EAN_CODE, 40, 0, 0);
        for (int sum : new int[] {500, 600, 700, 800}) {
            // a + c = ab + bc - 2 * b: 600 with the b in the middle.
            int b = sum - 300;
            digitOfWidths(x, sum, sum, b - 1);
            digitOfWidths(x, sum, sum, b);
            digitOfWidths(x, sum, sum, b + 1);
            digitOfWidths(x, sum, sum + 1, b);
            digitOfWidths(x, sum, sum + 1, b + 1);
        }
        Checks.set(x, 0, 4, 300, 500, 300, 300);
        Checks.due("a + c = 600", x.character(0, 0, 0), '1');
        Checks.set(x, 0, 4, 299, 501, 300, 300);
        Checks.due("a + c = 599", x.character(0, 0, 0), '7');
        Checks.set(x, 0, 4, 300, 300, 300, 500);
        Checks.due("a + c = 600", x.character(0, 0, 0), '2');
        Checks.set(x, 0, 4, 300, 300, 299, 501);
        Checks.due("a + c = 599", x.character(0, 0, 0), '8');
    }

    // S = 14,000, so that 200 * r / S is a little less than a whole number.
    private static void eanConfidenceRoundedDown() {
        int[][] widths = {{4999, 4000, 4000, 1001, 1}, {4500, 4000, 4000, 1500, 50}, {4499, 4000, 4000, 1501, 51},
            {4501, 4000, 4000, 1499, 50}, {4509, 4000, 4000, 1491, 50}, {4510, 4000, 4000, 1490, 49},
            {3001, 4000, 4000, 2999, 1}, {3000, 4000, 4000, 3000, 0}, {4000, 4000, 4999, 1001, 1},
            {4000, 4000, 3001, 2999, 1}, {4000, 4000, 3000, 3000, 0}, {4010, 4000, 4000, 1990, 99},
            {4009, 4000, 4000, 1991, 100}};
        BarcodeEngine x = new BarcodeEngine();
        Checks.print(x, 0, EAN_CODE, 40, 0, 0);
        for (int[] w : widths) {
            Checks.set(x, 0, 4, w[0], w[1], w[2], w[3]);
            String what = w[0] + " " + w[1] + " " + w[2] + " " + w[3];
            Checks.due("read of " + what, x.read(0, 0), 8);
            Checks.due("digit of " + what, x.read(0, 0) == 8 ? x.character(0, 0, 0) : NONE, '1');
            Checks.due("confidence of " + what, x.read(0, 0) == 8 ? x.confidence(0, 0, 0) : NONE, w[4]);
        }
    }

    // The greatest and the least widths, alone.
    private static void eanGreatestWidths() {
        BarcodeEngine x = new BarcodeEngine();
        Checks.print(x, 0, EAN_CODE, 40, 0, 0);
        Checks.set(x, 0, 4, 10000, 10000, 10000, 10000);
        Checks.due("3.5 and 3.5 are 4 and 4", x.character(0, 0, 0), '1');
        Checks.due("100 - 200 * 20,000 / 40,000", x.confidence(0, 0, 0), 0);
        Checks.set(x, 0, 4, 1, 1, 1, 1);
        Checks.due("3.5 and 3.5 are 4 and 4", x.character(0, 0, 0), '1');
        Checks.due("100 - 200 * 2 / 4", x.confidence(0, 0, 0), 0);
        Checks.set(x, 0, 4, 10000, 6667, 3333, 3333);
        Checks.due("3 2 1 1", x.character(0, 0, 0), '0');
    }

    // "Its confidence is 100 minus 200 * r / S, this quotient rounded down, where r is the greater
    // one of the absolute values": S is 700 k, and a digit 1 as it is has 200 k, 200 k, 200 k, 100 k
    private static void eanConfidence() {
        BarcodeEngine x = new BarcodeEngine();
        Checks.print(x, 0, EAN_CODE, 40, 0, 0);
        int[][] widths = {
            {200, 200, 200, 100, 100}, {201, 200, 199, 100, 98}, {200, 200, 199, 101, 98}, {200, 200, 201, 99, 98},
            {199, 201, 201, 99, 96}, {2000, 2000, 1999, 1001, 100}, {2001, 2000, 2000, 999, 100},
            {1999, 2000, 2000, 1001, 100}, {2000, 2000, 2004, 996, 100}, {2000, 2000, 2005, 995, 99},
            {1995, 2000, 2004, 1001, 99}, {1996, 2000, 2005, 999, 99}, {2004, 2000, 1995, 1001, 99},
            {2005, 2000, 1996, 999, 99}, {1996, 2000, 2004, 1000, 100}, {1750, 1750, 1750, 1750, 0}};
        for (int[] w : widths) {
            Checks.set(x, 0, 4, w[0], w[1], w[2], w[3]);
            String what = "confidence of " + w[0] + " " + w[1] + " " + w[2] + " " + w[3];
            Checks.due(what, x.read(0, 0) == 8 ? x.confidence(0, 0, 0) : NONE, w[4]);
        }
        for (int place = 1; place < 8; place++) {
            Checks.due("the others", x.confidence(0, 0, place), 100);
        }
    }

    // ---- section 2: narrow and wide widths

    /** The indices of the widths of a digit in a printed code of two digits: bars 5 to 13, spaces 6 to 14. */
    private static void setPair(BarcodeEngine x, int first, int... widths) {
        for (int i = 0; i < 5; i++) {
            x.setWidth(0, first + 2 * i, widths[i]);
        }
    }

    private static BarcodeEngine pair(String digits) {
        BarcodeEngine x = new BarcodeEngine();
        Checks.print(x, 1, digits, 40, 0, 0);
        return x;
    }

    // "If 2 * hi < 3 * lo, they cannot be read."
    private static void tooAlikeToBeRead() {
        for (int first = 5; first <= 6; first++) {
            BarcodeEngine x = pair("77");
            setPair(x, first, 100, 100, 100, 150, 150);
            Checks.same("2 * 150 = 3 * 100", Checks.seen(x, 0, 1), "77");
            setPair(x, first, 100, 100, 100, 149, 149);
            Checks.same("2 * 149 < 3 * 100", Checks.seen(x, 0, 1), "");
            setPair(x, first, 101, 101, 101, 151, 151);
            Checks.same("2 * 151 < 3 * 101", Checks.seen(x, 0, 1), "");
            setPair(x, first, 101, 101, 101, 152, 152);
            Checks.same("2 * 152 > 3 * 101", Checks.seen(x, 0, 1), "77");
            setPair(x, first, 1, 1, 1, 2, 2);
            Checks.same("the least widths", Checks.seen(x, 0, 1), "77");
            setPair(x, first, 6666, 6666, 6666, 10000, 10000);
            Checks.same("2 * 10,000 > 3 * 6,666", Checks.seen(x, 0, 1), "77");
            setPair(x, first, 6667, 6667, 6667, 10000, 10000);
            Checks.same("2 * 10,000 < 3 * 6,667", Checks.seen(x, 0, 1), "");
        }
        BarcodeEngine y = new BarcodeEngine();
        Checks.print(y, 2, "A0B", 40, 0, 0);
        Checks.set(y, 0, 9, 100, 100, 100, 100, 100, 150, 150);
        Checks.same("2 * 150 = 3 * 100", Checks.seen(y, 0, 2), "A0B");
        Checks.set(y, 0, 14, 149, 149);
        Checks.same("2 * 149 < 3 * 100", Checks.seen(y, 0, 2), "");
    }

    // "each width w with 2 * w > lo + hi counts as 3 modules, the others as 1"
    private static void moreThanTheMiddle() {
        for (int first = 5; first <= 6; first++) {
            // 13131 is 9, and 11133 is 7; lo + hi is 400, then 401.
            BarcodeEngine x = pair("99");
            setPair(x, first, 100, 201, 100, 300, 100);
            Checks.same("2 * 201 > 400", Checks.seen(x, 0, 1), "99");
            setPair(x, first, 100, 200, 100, 300, 100);
            Checks.same("2 * 200 = 400", Checks.seen(x, 0, 1), "");
            setPair(x, first, 100, 200, 100, 301, 300);
            Checks.same("2 * 200 < 401, so it is 1 1 1 3 3", Checks.seen(x, 0, 1), first == 5 ? "79" : "97");
            setPair(x, first, 100, 201, 100, 301, 100);
            Checks.same("2 * 201 > 401", Checks.seen(x, 0, 1), "99");
            setPair(x, first, 101, 201, 101, 301, 101);
            Checks.same("2 * 201 = 402", Checks.seen(x, 0, 1), "");
        }
        BarcodeEngine y = new BarcodeEngine();
        Checks.print(y, 2, "A0B", 40, 0, 0);
        Checks.set(y, 0, 9, 100, 100, 100, 100, 200, 201, 300);
        Checks.same("200 is narrow, 201 is wide", Checks.seen(y, 0, 2), "A0B");
        Checks.set(y, 0, 9, 100, 100, 100, 201, 100, 200, 300);
        Checks.same("200 is narrow, 201 is wide", Checks.seen(y, 0, 2), "A2B");
        Checks.set(y, 0, 9, 100, 100, 200, 100, 201, 100, 300);
        Checks.same("no such character", Checks.seen(y, 0, 2), "");
    }

    // "some widths are read together: the 5 bars of a pair, the 5 spaces of a pair, or the 7 widths
    // of a character of Codabar"
    private static void onlySomeWidthsTogether() {
        BarcodeEngine x = pair("12");
        setPair(x, 6, 4000, 12 * 400, 4000, 4000, 12 * 400);
        Checks.same("spaces alike", Checks.seen(x, 0, 1), "");
        setPair(x, 6, 2000, 6000, 2000, 2000, 6000);
        Checks.same("spaces far wider than bars", Checks.seen(x, 0, 1), "12");
        Checks.due("confidence", x.confidence(0, 1, 0), 100);
        Checks.due("confidence", x.confidence(0, 1, 1), 100);
        setPair(x, 5, 3, 1, 1, 1, 3);
        Checks.same("bars far narrower", Checks.seen(x, 0, 1), "12");
        BarcodeEngine y = new BarcodeEngine();
        Checks.print(y, 2, "A12B");
        for (int i = 0; i < 7; i++) {
            y.setWidth(0, 9 + i, y.width(0, 9 + i) * 100);
        }
        Checks.same("a character far wider than the next one", Checks.seen(y, 0, 2), "A12B");
    }

    // "If there is no character with these widths, they cannot be read."
    private static void noSuchPair() {
        for (int bits = 0; bits < 32; bits++) {
            int[] widths = new int[5];
            StringBuilder modules = new StringBuilder();
            for (int i = 0; i < 5; i++) {
                int count = (bits >> 4 - i & 1) == 1 ? 3 : 1;
                modules.append(count);
                widths[i] = 40 * count;
            }
            int digit = java.util.List.of(PAIRS).indexOf(modules.toString());
            BarcodeEngine x = pair("00");
            setPair(x, 5, widths);
            Checks.same("bars " + modules, Checks.seen(x, 0, 1), digit < 0 ? "" : digit + "0");
            BarcodeEngine y = pair("00");
            setPair(y, 6, widths);
            Checks.same("spaces " + modules, Checks.seen(y, 0, 1), digit < 0 ? "" : "0" + digit);
        }
    }

    private static void noSuchCodabar() {
        for (int bits = 0; bits < 128; bits++) {
            int[] widths = new int[7];
            StringBuilder modules = new StringBuilder();
            for (int i = 0; i < 7; i++) {
                int count = (bits >> 6 - i & 1) == 1 ? 3 : 1;
                modules.append(count);
                widths[i] = 10 * count;
            }
            int value = java.util.List.of(CODABAR).indexOf(modules.toString());
            BarcodeEngine x = new BarcodeEngine();
            Checks.print(x, 2, "A0B");
            Checks.set(x, 0, 9, widths);
            String want = value < 0 || value > 15 ? "" : "A" + INNER.charAt(value) + "B";
            Checks.same("a character " + modules, Checks.seen(x, 0, 2), want);
            BarcodeEngine y = new BarcodeEngine();
            Checks.print(y, 2, "A0B");
            Checks.set(y, 0, 1, widths);
            Checks.same("a start " + modules, Checks.whole(y, 0, 2), value > 15 ? "ABCD".charAt(value - 16) + "0B" : "");
            BarcodeEngine z = new BarcodeEngine();
            Checks.print(z, 2, "A0B");
            Checks.set(z, 0, 17, widths);
            Checks.same("a stop " + modules, Checks.whole(z, 0, 2), value > 15 ? "A0" + "ABCD".charAt(value - 16) : "");
        }
    }

    // "The confidence is 150 * (v - u) / v, rounded down, but at most 100, where v is the least width
    // that counts as 3 and u the greatest one that counts as 1."
    private static void confidenceAtMost100() {
        int[][] widths = {{100, 100, 100, 300, 300, 100}, {100, 100, 100, 299, 299, 99}, {100, 100, 100, 301, 301, 100},
            {100, 100, 100, 300, 299, 99}, {100, 100, 100, 299, 300, 99}, {100, 101, 100, 300, 300, 99},
            {101, 100, 100, 300, 300, 99}, {100, 100, 101, 300, 300, 99}, {1, 1, 1, 10000, 10000, 100},
            {100, 100, 100, 150, 150, 50}, {100, 100, 100, 151, 151, 50}, {100, 100, 100, 152, 152, 51},
            {100, 100, 100, 306, 306, 100}, {100, 100, 100, 307, 307, 100}, {100, 100, 100, 310, 310, 100},
            {1000, 999, 1000, 2999, 3001, 99}, {1000, 1000, 1000, 3000, 3001, 100}};
        for (int[] w : widths) {
            String what = w[0] + " " + w[1] + " " + w[2] + " " + w[3] + " " + w[4];
            BarcodeEngine x = pair("77");
            setPair(x, 5, w);
            Checks.due("bars " + what, x.confidence(0, 1, 0), w[5]);
            Checks.due("bars " + what, x.confidence(0, 1, 1), 100);
            BarcodeEngine y = pair("77");
            setPair(y, 6, w);
            Checks.due("spaces " + what, y.confidence(0, 1, 0), 100);
            Checks.due("spaces " + what, y.confidence(0, 1, 1), w[5]);
            BarcodeEngine z = new BarcodeEngine();
            Checks.print(z, 2, "A0B", 40, 0, 0);
            Checks.set(z, 0, 9, 100, 100, w[0], w[1], w[2], w[3], w[4]);
            Checks.due("a character " + what, z.confidence(0, 2, 0), 100);
            if (w[0] >= 100) {
                Checks.due("a character " + what, z.confidence(0, 2, 1), w[5]);
            }
            Checks.due("a character " + what, z.confidence(0, 2, 2), 100);
        }
    }

    // The least confidence: 0, with which a character is still read.
    private static void confidenceFrom0() {
        BarcodeEngine x = pair("77");
        setPair(x, 5, 100, 5050, 100, 5051, 10000);
        Checks.same("read", Checks.seen(x, 0, 1), "77");
        Checks.due("150 * 1 / 5051", x.confidence(0, 1, 0), 0);
        setPair(x, 5, 1, 100, 1, 101, 200);
        Checks.due("150 * 1 / 101", x.confidence(0, 1, 0), 1);
        setPair(x, 5, 1, 150, 1, 151, 300);
        Checks.due("150 * 1 / 151", x.confidence(0, 1, 0), 0);
        setPair(x, 5, 1, 149, 1, 150, 298);
        Checks.due("150 * 1 / 150", x.confidence(0, 1, 0), 1);
    }

    // "A pair can be read if both its digits can be read."
    private static void bothDigitsOfAPair() {
        BarcodeEngine x = pair("1234");
        setPair(x, 15, 40, 40, 40, 40, 120);
        Checks.same("the bars cannot", Checks.seen(x, 0, 1), "12~");
        BarcodeEngine y = pair("1234");
        setPair(y, 16, 40, 40, 40, 40, 120);
        Checks.same("the spaces cannot", Checks.seen(y, 0, 1), "12~");
        BarcodeEngine z = pair("1234");
        setPair(z, 5, 40, 40, 40, 40, 120);
        Checks.same("the bars cannot", Checks.seen(z, 0, 1), "~34");
        BarcodeEngine w = pair("1234");
        setPair(w, 6, 40, 40, 40, 40, 120);
        Checks.same("the spaces cannot", Checks.seen(w, 0, 1), "~34");
    }
}
