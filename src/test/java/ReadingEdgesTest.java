/**
 * Section 3 of the description: each sentence that names a boundary (it stands above the test,
 * shortened), with the last value on either side of it.
 *
 * A printed code has its first bar at 1. EAN-8: digits from 4 and from 25, the middle at 20 to 24,
 * the stop at 41 to 43. Interleaved 2 of 5: pairs from 5, 10 widths each. Codabar: a character at
 * every eighth bar.
 */
public final class ReadingEdgesTest {
    private static final String LEFT = "111 2221 2122 1411 1132";
    private static final String RIGHT = "1231 1114 1312 3211 111";
    private static final String EAN = LEFT + "11111" + RIGHT;
    private static final String A = "1133131";
    private static final String B = "1313113";
    private static final String C = "1113133";
    private static final String ONE = "1111331";
    private static final String[] CODES = {"12345670", "1234", "A12B"};
    private static final String[] WITHOUT_START = {"~5670", "~1234", "~12B"};
    private static final String[] WITHOUT_STOP = {"1234~", "1234~", "A12~"};

    public static void main(String[] args) {
        evenStart();
        evenMiddle();
        evenStop();
        quietStart();
        quietStop();
        quietInFrontAndBehind();
        quietUpTo10000();
        gapsAreNoPartOfALetter();
        beginningsAndEndsAreBars();
        interleavedStop();
        codabarStartAndStop();
        oneToSevenPairs();
        asFewPairsAsPossible();
        oneToFourteenCharacters();
        gapsOfAnyWidth();
        eightDigits();
        firstBeginning();
        atLeastTwoCharacters();
        atMostFourDigits();
        atMostSevenPairs();
        atMostFourteenCharacters();
        upToTheFirstThatCannot();
        backToTheLastThatCannot();
        firstHead();
        lastTail();
        widthsMustExist();
        shortestScans();
        wholeBeforeReverseBeforeParts();
        partsOfOneDirection();
        Checks.end("ReadingEdgesTest");
    }

    private static BarcodeEngine printed(int symbology) {
        BarcodeEngine x = new BarcodeEngine();
        Checks.print(x, symbology, CODES[symbology], 40, 0, 0);
        return x;
    }

    /** With one width changed, and with the row reversed as well. */
    private static void sees(int symbology, int index, int width, String want) {
        sees(symbology, new int[][] {{index, width}}, want);
    }

    private static void sees(int symbology, int[][] changes, String want) {
        BarcodeEngine x = printed(symbology);
        StringBuilder what = new StringBuilder("symbology " + symbology);
        for (int[] change : changes) {
            x.setWidth(0, change[0], change[1]);
            what.append(", ").append(change[1]).append(" at ").append(change[0]);
        }
        Checks.same(what.toString(), Checks.seen(x, 0, symbology), want);
        x.reverse(0);
        Checks.same(what + ", in reverse", Checks.seen(x, 0, symbology), "<" + want);
    }

    // ---- beginnings and ends

    // "Some widths are even if the greatest of them is at most twice the least of them."
    private static void evenStart() {
        for (int symbology = 0; symbology < 2; symbology++) {
            for (int bar = 1; bar <= (symbology == 0 ? 3 : 4); bar++) {
                sees(symbology, bar, 80, CODES[symbology]);
                sees(symbology, bar, 81, WITHOUT_START[symbology]);
                sees(symbology, bar, 20, CODES[symbology]);
                sees(symbology, bar, 19, WITHOUT_START[symbology]);
            }
        }
        // The fourth width of Interleaved 2 of 5 belongs to the start, that of EAN-8 does not.
        sees(0, new int[][] {{4, 160}, {5, 160}, {6, 160}, {7, 80}}, "12345670");
    }

    private static void evenMiddle() {
        for (int index = 20; index <= 24; index++) {
            sees(0, index, 80, "12345670");
            sees(0, index, 81, "1234~5670");
            sees(0, index, 20, "12345670");
            sees(0, index, 19, "1234~5670");
        }
        // The least and the greatest one, whatever stands between them.
        sees(0, new int[][] {{20, 50}, {22, 39}, {24, 79}}, "1234~5670");
        sees(0, new int[][] {{20, 50}, {22, 40}, {24, 80}}, "12345670");
    }

    private static void evenStop() {
        for (int index = 41; index <= 43; index++) {
            sees(0, index, 80, "12345670");
            sees(0, index, 81, "1234~");
            sees(0, index, 20, "12345670");
            sees(0, index, 19, "1234~");
        }
    }

    // "A quiet zone for a width u is a space of at least 5 * u. A beginning is a bar with this
    // property: ... the space in front of it is a quiet zone for the least width of the start."
    private static void quietStart() {
        for (int symbology = 0; symbology < 3; symbology++) {
            sees(symbology, 0, 200, CODES[symbology]);
            sees(symbology, 0, 199, WITHOUT_START[symbology]);
            int[] narrow = symbology == 0 ? new int[] {1, 2, 3}
                : symbology == 1 ? new int[] {1, 2, 3, 4} : new int[] {1, 2, 5, 7};
            for (int index : narrow) {
                sees(symbology, new int[][] {{index, 31}, {0, 155}}, CODES[symbology]);
                sees(symbology, new int[][] {{index, 31}, {0, 154}}, WITHOUT_START[symbology]);
            }
        }
    }

    // "An end is a bar with this property: ... the space behind it is a quiet zone for the least
    // width of the stop."
    private static void quietStop() {
        int[][] narrow = {{41, 42, 43}, {26, 27}, {25, 27, 29, 30}};
        int[] last = {44, 28, 32};
        for (int symbology = 0; symbology < 3; symbology++) {
            sees(symbology, last[symbology], 200, CODES[symbology]);
            sees(symbology, last[symbology], 199, WITHOUT_STOP[symbology]);
            for (int index : narrow[symbology]) {
                sees(symbology, new int[][] {{index, 31}, {last[symbology], 155}}, CODES[symbology]);
                sees(symbology, new int[][] {{index, 31}, {last[symbology], 154}}, WITHOUT_STOP[symbology]);
            }
        }
    }

    // The space right in front of the start and right behind the stop, no other one.
    private static void quietInFrontAndBehind() {
        Checks.sees(1, "4 1 5 1111 3113111133 311 5 1 4", "12");
        Checks.sees(1, "q 1 4 1111 3113111133 311 5 1 4", "~12");
        Checks.sees(1, "4 1 5 1111 3113111133 311 4 1 q", "12~");
        Checks.sees(0, "4 1 5" + EAN + "5 1 4", "12345670");
        Checks.sees(0, "q 1 4" + EAN + "5 1 4", "~5670");
        Checks.sees(0, "4 1 5" + EAN + "4 1 q", "1234~");
        String codabar = A + 1 + ONE + 1 + B;
        Checks.sees(2, "4 1 5" + codabar + "5 1 4", "A1B");
        Checks.sees(2, "q 1 4" + codabar + "5 1 4", "~1B");
        Checks.sees(2, "4 1 5" + codabar + "4 1 q", "A1~");
    }

    // The greatest width is 10,000: there is no quiet zone for a width above 2,000.
    private static void quietUpTo10000() {
        sees(0, new int[][] {{1, 2000}, {2, 2000}, {3, 2000}, {0, 10000}}, "12345670");
        sees(0, new int[][] {{1, 2001}, {2, 2001}, {3, 2001}, {0, 10000}}, "~5670");
        sees(0, new int[][] {{1, 2000}, {2, 2000}, {3, 2000}, {0, 9999}}, "~5670");
        sees(0, new int[][] {{41, 2000}, {42, 2000}, {43, 2000}, {44, 10000}}, "12345670");
        sees(0, new int[][] {{41, 2001}, {42, 2001}, {43, 2001}, {44, 10000}}, "1234~");
        sees(1, new int[][] {{1, 1}, {2, 1}, {3, 2}, {4, 2}, {0, 5}}, "1234");
        sees(1, new int[][] {{1, 1}, {2, 1}, {3, 2}, {4, 2}, {0, 4}}, "~1234");
    }

    // The gap belongs neither to the start nor to the stop, but all seven widths of a letter do.
    private static void gapsAreNoPartOfALetter() {
        sees(2, new int[][] {{8, 30}, {0, 200}}, "A12B");
        sees(2, new int[][] {{8, 30}, {0, 199}}, "~12B");
        sees(2, new int[][] {{24, 30}, {32, 200}}, "A12B");
        sees(2, new int[][] {{24, 30}, {32, 199}}, "A12~");
        BarcodeEngine x = new BarcodeEngine();
        Checks.print(x, 2, "D1A", 40, 0, 0);
        for (int index : new int[] {1, 2, 3, 7, 17, 18, 21, 23}) {
            x.setWidth(0, index, 31);
            int space = index < 8 ? 0 : 24;
            x.setWidth(0, space, 155);
            Checks.same("a quiet zone for 31 at " + index, Checks.seen(x, 0, 2), "D1A");
            x.setWidth(0, space, 154);
            Checks.same("none for 31 at " + index, Checks.seen(x, 0, 2), space == 0 ? "~1A" : "D1~");
            x.setWidth(0, space, 400);
            x.setWidth(0, index, 40);
        }
    }

    // "A beginning is a bar", "An end is a bar": the same widths with a space first are nothing.
    private static void beginningsAndEndsAreBars() {
        String[] wholes = {EAN, "1111 3113111133 311", A + 1 + ONE + 1 + B};
        String[] heads = {LEFT, "1111 3113111133 1", A + 1 + ONE};
        String[] tails = {RIGHT, "3113111133 311", ONE + 1 + B};
        for (int symbology = 0; symbology < 3; symbology++) {
            for (String[] rows : new String[][] {wholes, heads, tails}) {
                String row = "1 q" + rows[symbology] + "q 1";
                Checks.sees(symbology, row, "");
                Checks.sees(symbology, Checks.backwards(row), "");
            }
        }
    }

    // "Interleaved 2 of 5: a bar x, a space y and a bar z with 2 * x >= 3 * y and 2 * x >= 3 * z"
    private static void interleavedStop() {
        for (int index = 26; index <= 27; index++) {
            sees(1, index, 80, "1234");
            sees(1, index, 81, "1234~");
            sees(1, new int[][] {{25, 121}, {index, 80}}, "1234");
            sees(1, new int[][] {{25, 119}, {index, 80}}, "1234~");
            sees(1, new int[][] {{25, 121}, {index, 81}}, "1234~");
        }
        sees(1, new int[][] {{25, 60}}, "1234");
        sees(1, new int[][] {{25, 59}}, "1234~");
        sees(1, new int[][] {{25, 10000}, {26, 6666}}, "1234");
        sees(1, new int[][] {{25, 10000}, {26, 6667}}, "1234~");
        sees(1, new int[][] {{25, 10000}, {26, 1}, {28, 5}}, "1234");
        sees(1, new int[][] {{25, 10000}, {26, 1}, {28, 4}}, "1234~");
    }

    // "Codabar: a character that can be read as A, B, C or D"
    private static void codabarStartAndStop() {
        String[] letters = {A, B, C, "1113331"};
        for (int i = 0; i < 4; i++) {
            Checks.sees(2, "5" + letters[i] + 1 + ONE + 1 + A + "5", "ABCD".charAt(i) + "1A");
            Checks.sees(2, "5" + A + 1 + ONE + 1 + letters[i] + "5", "A1" + "ABCD".charAt(i));
        }
        // + and A differ in one width, and so do C and 0 to 9.
        Checks.sees(2, "5 1131313 1" + ONE + 1 + A + "5", "~+1A");
        Checks.sees(2, "5" + A + 1 + ONE + "1 1131313 5", "A1+~");
        sees(2, new int[][] {{25, 40}, {26, 40}, {27, 40}, {28, 120}, {29, 40}, {30, 120}, {31, 120}}, "A12C");
        sees(2, new int[][] {{25, 40}, {26, 40}, {27, 40}, {28, 120}, {29, 40}, {30, 40}, {31, 120}}, "A122~");
    }

    // ---- whole codes

    // "in Interleaved 2 of 5 1 to 7 pairs"
    private static void oneToSevenPairs() {
        Checks.sees(1, "q 1111 311 q", "");
        String pairs = "1131311313 1333111131 3113111133".replace(" ", "");
        StringBuilder all = new StringBuilder();
        StringBuilder digits = new StringBuilder();
        for (int count = 1; count <= 7; count++) {
            all.append(pairs, count % 3 * 10, count % 3 * 10 + 10);
            digits.append("672312", count % 3 * 2, count % 3 * 2 + 2);
            Checks.sees(1, "q 1111" + all + "311 q", digits.toString());
        }
        Checks.sees(1, "q 1111" + all + "1131311313 311 q", digits + "~" + digits.substring(2) + "67");
    }

    // "as few as possible"
    private static void asFewPairsAsPossible() {
        String both = "q 1111 3113111133 311 5 111 5 3 1 3 1 1 q";
        Checks.sees(1, both, "12");
        Checks.sees(1, both.replace("311 5 111", "311 4 111"), "1219");
        BarcodeEngine x = new BarcodeEngine();
        Checks.scan(x, both, 10);
        Checks.set(x, 0, 18, 49);
        Checks.same("no end behind the first pair", Checks.seen(x, 0, 1), "1219");
        Checks.set(x, 0, 18, 50);
        Checks.same("an end behind the first pair", Checks.seen(x, 0, 1), "12");
    }

    // "in Codabar gaps and 1 to 14 characters other than A, B, C, D"
    private static void oneToFourteenCharacters() {
        Checks.sees(2, "q" + A + 1 + B + "q", "");
        String inner = "";
        String text = "";
        for (int count = 1; count <= 14; count++) {
            inner += count % 2 == 0 ? 1 + ONE : "1 1113113";
            text += count % 2 == 0 ? "1" : "2";
            Checks.sees(2, "q" + A + inner + 1 + B + "q", "A" + text + "B");
            // A letter that is no end, in the place of the last one of them.
            String shorter = inner.substring(0, inner.length() - 7) + C;
            String head = count == 1 ? "" : "A" + text.substring(0, count - 1) + "~";
            Checks.sees(2, "q" + A + shorter + 1 + B + "q", head);
        }
        // 15 characters with a start leave no room for a stop.
        Checks.sees(2, "q" + A + inner + 1 + ONE + "q", "A" + text + "~");
    }

    // "gaps (of any width)"
    private static void gapsOfAnyWidth() {
        for (int gap : new int[] {1, 39, 41, 199, 200, 9999, 10000}) {
            sees(2, 8, gap, "A12B");
            sees(2, 16, gap, "A12B");
            sees(2, 24, gap, "A12B");
        }
    }

    // "in EAN-8 4 digits, 5 even widths, 4 digits"
    private static void eightDigits() {
        Checks.sees(0, "q" + EAN + "q", "12345670");
        Checks.sees(0, "q 111 2221 2122 1411 11111" + RIGHT + "q", "1231~5670");
        Checks.sees(0, "q" + LEFT + "11111 1231 1114 1312 111 q", "1234~1567");
        Checks.sees(0, "q" + LEFT + "1" + RIGHT + "q", "1234~5670");
        Checks.sees(0, "q" + LEFT + "111" + RIGHT + "q", "1234~5670");
    }

    // "The first beginning from which a whole code can be read counts."
    private static void firstBeginning() {
        String twos = "111 2122 2122 2122 2122 11111 2122 2122 2122 2122 111";
        Checks.sees(0, "q 111 q" + EAN + "q" + twos + "q", "12345670");
        Checks.sees(0, "q 111 q" + twos + "q" + EAN + "q", "22222222");
        String one = "1111 3113111133 311";
        String two = "1111 1131311313 3113111133 311";
        Checks.sees(1, "q 1111 1 q" + one + "q" + two + "q", "12");
        Checks.sees(1, "q 1111 1 q" + two + "q" + one + "q", "6712");
        Checks.sees(1, "q" + Checks.backwards(one) + "q" + Checks.backwards(two) + "q", "<6712");
        String three = A + 1 + ONE + 1 + B;
        String four = B + 1 + ONE + 1 + ONE + 1 + A;
        Checks.sees(2, "q" + A + "q" + three + "q" + four + "q", "A1B");
        Checks.sees(2, "q" + A + "q" + four + "q" + three + "q", "B11A");
        Checks.sees(2, "q" + Checks.backwards(three) + "q" + Checks.backwards(four) + "q", "<B11A");
    }

    // ---- heads and tails

    // "The first beginning whose head has at least 2 characters counts." And so a tail.
    private static void atLeastTwoCharacters() {
        Checks.sees(0, "q 111 q", "");
        Checks.sees(0, "q 111 3211 1", "");
        Checks.sees(0, "q 111 3211 3211 1", "00~");
        Checks.sees(0, "1 3211 111 q", "");
        Checks.sees(0, "1 3211 3211 111 q", "~00");
        Checks.sees(1, "q 1111 1 1", "");
        Checks.sees(1, "q 1111 3113111133 1 1", "12~");
        Checks.sees(1, "1 311 q", "");
        Checks.sees(1, "1 3113111133 311 q", "~12");
        Checks.sees(2, "q" + A + "4", "");
        Checks.sees(2, "q" + A + 1 + ONE + "4", "A1~");
        Checks.sees(2, "4" + A + "q", "");
        Checks.sees(2, "4" + ONE + 1 + A + "q", "~1A");
    }

    // "in EAN-8 at most the 4 digits behind the start", "... in front of the stop"
    private static void atMostFourDigits() {
        Checks.sees(0, "q 111 2221 2122 1411 1", "123~");
        Checks.sees(0, "q 111 2221 2122 1411 3112 1", "1239~");
        Checks.sees(0, "q 111 2221 2122 1411 3112 3211 1", "1239~");
        Checks.sees(0, "1 1114 1312 3211 111 q", "~670");
        Checks.sees(0, "1 1231 1114 1312 3211 111 q", "~5670");
        Checks.sees(0, "1 2221 1231 1114 1312 3211 111 q", "~5670");
    }

    // "in Interleaved 2 of 5 at most 7 pairs", from either end
    private static void atMostSevenPairs() {
        String[] pairs = {"1131311313", "1333111131", "3113111133"};
        String row = "";
        String digits = "";
        for (int count = 1; count <= 9; count++) {
            row += pairs[count % 3];
            digits += "672312".substring(count % 3 * 2, count % 3 * 2 + 2);
            Checks.sees(1, "q 1111" + row + "1 1", digits.substring(0, Math.min(14, 2 * count)) + "~");
            Checks.sees(1, "1" + row + "311 q", "~" + digits.substring(Math.max(0, 2 * count - 14)));
        }
    }

    // "in Codabar the start and at most 14 characters other than A, B, C, D", "at most 14 characters
    // other than A, B, C, D and the stop"
    private static void atMostFourteenCharacters() {
        String inner = "";
        String text = "";
        for (int count = 1; count <= 15; count++) {
            inner += (count == 1 ? "" : "1") + (count % 3 == 0 ? ONE : count % 3 == 1 ? "1113113" : "1131131");
            text += "124".charAt(count % 3 == 0 ? 0 : count % 3);
            Checks.sees(2, "q" + A + 1 + inner + "4", "A" + text.substring(0, Math.min(14, count)) + "~");
            Checks.sees(2, "4" + inner + 1 + B + "q", "~" + text.substring(Math.max(0, count - 14)) + "B");
        }
    }

    // "the characters that can be read from a beginning on, up to the first one that cannot"
    private static void upToTheFirstThatCannot() {
        Checks.sees(0, "q 111 2221 2122 1141 1132 1", "12~");
        Checks.sees(0, "q 111 2221 1141 1411 1132 1", "");
        Checks.sees(1, "q 1111 3113111133 1131311313 1131311331 3113111133 1 1", "1267~");
        Checks.sees(1, "q 1111 3111111133 3113111133 1 1", "");
        String bad = "1111111";
        Checks.sees(2, "q" + A + 1 + ONE + 1 + bad + 1 + ONE + "4", "A1~");
        Checks.sees(2, "q" + A + 1 + bad + 1 + ONE + "4", "");
        Checks.sees(2, "q" + A + 1 + ONE + 1 + C + 1 + ONE + "4", "A1~");
        Checks.sees(2, "q" + A + 1 + C + 1 + ONE + "4", "");
    }

    // "a tail reaches back from the end to the last character that cannot be read"
    private static void backToTheLastThatCannot() {
        Checks.sees(0, "1 1231 1141 1312 3211 111 q", "~70");
        Checks.sees(0, "1 1231 1114 1141 3211 111 q", "");
        Checks.sees(1, "1 3113111133 1131311331 1131311313 3113111133 311 q", "~6712");
        Checks.sees(1, "1 3113111133 1131311331 311 q", "");
        String bad = "1111111";
        Checks.sees(2, "4" + ONE + 1 + bad + 1 + ONE + 1 + B + "q", "~1B");
        Checks.sees(2, "4" + ONE + 1 + bad + 1 + B + "q", "");
        Checks.sees(2, "4" + ONE + 1 + C + 1 + ONE + 1 + B + "q", "~1B");
        Checks.sees(2, "4" + ONE + 1 + C + 1 + B + "q", "");
    }

    // "The first beginning whose head has at least 2 characters counts."
    private static void firstHead() {
        Checks.sees(0, "q 111 2221 q 111 1411 1132 q 111 2221 2122 1411 q", "34~");
        Checks.sees(1, "q 1111 1 q 1111 3113111133 1 q 1111 1131311313 3113111133 1 q", "12~");
        Checks.sees(2, "q" + A + "q" + B + 1 + ONE + "q" + C + 1 + ONE + 1 + ONE + "q", "B1~");
    }

    // "The last end whose tail has at least 2 characters counts."
    private static void lastTail() {
        Checks.sees(0, "q 1114 1312 3211 111 q 1231 1114 111 q 1312 111 q", "~56");
        Checks.sees(1, "4 1131311313 3113111133 311 q 3113111133 311 q 311 q", "~12");
        Checks.sees(2, "4" + ONE + 1 + ONE + 1 + A + "q" + ONE + 1 + B + "q" + C + "q", "~1B");
    }

    // "The widths that are read must exist in the scan." Each cut of a code at each place.
    private static void widthsMustExist() {
        String[] codes = {"12345670", "12345678", "A1234567B"};
        // Where the first unit of a part begins, its widths, the characters of a unit, the most units.
        int[] start = {4, 5, 9};
        int[] step = {4, 10, 8};
        int[] units = {4, 4, 7};
        for (int symbology = 0; symbology < 3; symbology++) {
            BarcodeEngine first = new BarcodeEngine();
            Checks.print(first, symbology, codes[symbology]);
            int last = first.widthCount(0) - 1;
            for (int at = 2; at < last; at += 2) {
                cutAt(symbology, codes[symbology], 0, at, fits(symbology, at, start, step, units), false);
                int fromEnd = symbology == 1 ? last - at + 1 : last - at;
                cutAt(symbology, codes[symbology], at, last, fits(symbology, fromEnd, start, step, units), true);
            }
        }
    }

    /** The characters of a part with the index of its last width, counted from the outer end. */
    private static int fits(int symbology, int at, int[] start, int[] step, int[] units) {
        // A character of Codabar has 7 widths, and the gap behind it need not exist.
        int behind = symbology == 2 ? at + 2 : at + 1;
        int count = Math.min(units[symbology], Math.max(0, (behind - start[symbology]) / step[symbology]));
        int characters = symbology == 0 ? count : symbology == 1 ? 2 * count : count + 1;
        return characters < 2 ? 0 : characters;
    }

    private static void cutAt(int symbology, String code, int from, int to, int characters, boolean tail) {
        BarcodeEngine x = new BarcodeEngine();
        Checks.print(x, symbology, code);
        x.cut(0, from, to);
        String part = tail ? code.substring(code.length() - characters) : code.substring(0, characters);
        String want = characters == 0 ? "" : tail ? "~" + part : part + "~";
        Checks.same(code + " cut to " + from + ", " + to, Checks.seen(x, 0, symbology), want);
        x.reverse(0);
        Checks.same(code + " cut and reversed", Checks.seen(x, 0, symbology), want.isEmpty() ? "" : "<" + want);
    }

    private static void shortestScans() {
        for (int symbology = 0; symbology < 3; symbology++) {
            for (String row : new String[] {"q1q", "111", "q3111q", "q1113q", "q1111", "1111q", "q 111 q", "q 311 q", "q 1111 1 q",
                "q 113 q", "q" + A, A + "q", "q" + A + "q"}) {
                String odd = row.replace(" ", "").length() % 2 == 0 ? row + "1" : row;
                Checks.sees(symbology, odd, "");
            }
        }
    }

    // ---- directions

    // "if a whole code can be read as it is, this counts; otherwise a whole code in reverse;
    // otherwise the head and the tail as it is"
    private static void wholeBeforeReverseBeforeParts() {
        String one = "1111 3113111133 311";
        String two = Checks.backwards("1111 1131311313 311");
        Checks.sees(1, "q" + one + "q" + two + "q", "12");
        Checks.sees(1, "q" + two + "q" + one + "q", "12");
        Checks.sees(1, "q 1111 3113111133 1 q" + two + "q", "<67");
        Checks.sees(1, "q" + two + "q 3113111133 311 q", "<67");
        String three = A + 1 + ONE + 1 + B;
        String four = Checks.backwards(C + 1 + ONE + 1 + A);
        Checks.sees(2, "q" + three + "q" + four + "q", "A1B");
        Checks.sees(2, "q" + four + "q" + three + "q", "A1B");
        Checks.sees(2, "q" + A + 1 + ONE + "q" + four + "q", "<C1A");
        Checks.sees(0, "q" + LEFT + "q" + Checks.backwards(EAN) + "q", "<12345670");
        Checks.sees(0, "q" + Checks.backwards(EAN) + "q" + EAN + "q", "12345670");
        Checks.sees(0, "q" + Checks.backwards(EAN) + "q" + RIGHT + "q", "<12345670");
    }

    // "otherwise the head and the tail as it is, if there is one of them; otherwise those in reverse"
    private static void partsOfOneDirection() {
        String head = LEFT;
        String tail = RIGHT;
        String headBack = Checks.backwards("111 3112 3112 3112 3112");
        String tailBack = Checks.backwards("3112 3112 3112 3112 111");
        Checks.sees(0, "q" + head + "q" + tail + "q", "1234~5670");
        Checks.sees(0, "q" + head + "4 1 4" + headBack + "q", "1234~");
        Checks.sees(0, "q" + tailBack + "4 1 4" + tail + "q", "~5670");
        Checks.sees(0, "q" + tailBack + "4 1 4" + headBack + "q", "<9999~9999");
        Checks.sees(0, "4 1 4" + headBack + "q", "<9999~");
        Checks.sees(0, "q" + tailBack + "4 1 4", "<~9999");
        Checks.sees(0, "q" + tailBack + "q" + head + "4 1 4" + headBack + "q", "1234~");
    }
}
