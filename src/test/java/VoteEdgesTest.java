/**
 * Sections 4 and 5 of the description: each sentence that names a boundary (it stands above the
 * test, shortened), with the last value on either side of it.
 */
public final class VoteEdgesTest {
    private static final int ALL = BarcodeEngine.NONE;
    private static final String EAN_LEFT = "111 2221 2122 1411 1132";
    private static final String EAN_RIGHT = "1231 1114 1312 3211 111";

    public static void main(String[] args) {
        weightFrom1To101();
        weightOfEachDigitOfAPair();
        weightOfStartAndStop();
        oneSymbologyAlone();
        supportIsTheLeastWeight();
        supportIsASum();
        greatestSupportOrLeastLength();
        eanHeadAndTail();
        eanPartsOfOneScan();
        wholeCodeBeforeParts();
        twoScansNeeded();
        overlapOfAtLeastTwo();
        lengthsThatACodeCanHave();
        greatestOverlap();
        lowestHeadThenLowestTail();
        wholeCodesOfTheLengthVote();
        headsUpToTheLengthVote();
        tailsUpToTheLengthVote();
        codabarPartsOfTheLengthVote();
        placesAtTheEnds();
        moreThanTheHalf();
        noVotesAtAll();
        everythingFull();
        eanCheck();
        interleavedCheck();
        codabarCheck();
        checksAtFirst();
        Checks.end("VoteEdgesTest");
    }

    /** A code of Interleaved 2 of 5 that begins with the digit 1, 3 or 8, which gets this weight. */
    private static int pairs(BarcodeEngine x, String digits, int weight) {
        int scan = Checks.print(x, 1, digits, 40, 0, 0);
        // A wide bar of 120 and a narrow one of 80 have 50, and 119 and 80 have 49.
        if (weight <= 51) {
            x.setWidth(scan, 9, 80);
        }
        if (weight == 50) {
            x.setWidth(scan, 5, 119);
        }
        if (weight == 100) {
            x.setWidth(scan, 5, 119);
        }
        Checks.due("weight of " + digits, 1 + x.confidence(scan, 1, 0), weight);
        return scan;
    }

    // ---- weights

    // "The weight of a character that was read is 1 plus its confidence"
    private static void weightFrom1To101() {
        BarcodeEngine x = new BarcodeEngine();
        Checks.print(x, 0, "12345670", 40, 0, 0);
        Checks.due("confidence 100", x.weight(0, 0, '1'), 101);
        Checks.set(x, 0, 4, 160, 160, 160, 160);
        Checks.due("confidence 0", x.confidence(0, 0, 0), 0);
        Checks.due("weight 1", x.weight(0, 0, '1'), 1);
        Checks.due("weight 1 has the majority alone", x.voted(0, 0), '1');
        BarcodeEngine y = new BarcodeEngine();
        Checks.print(y, 1, "77");
        Checks.set(y, 0, 7, 5050, 10, 100, 10, 5051, 30, 10000);
        Checks.set(y, 0, 5, 100);
        Checks.due("confidence 0", y.confidence(0, 1, 0), 0);
        Checks.due("weight 1", y.weight(1, 0, '7'), 1);
    }

    // "(for the digits of a pair, each its own; ...)"
    private static void weightOfEachDigitOfAPair() {
        BarcodeEngine x = new BarcodeEngine();
        pairs(x, "1111", 51);
        Checks.due("bars", x.weight(1, 0, '1'), 51);
        Checks.due("spaces", x.weight(1, 1, '1'), 101);
        Checks.due("the next bars", x.weight(1, 2, '1'), 101);
        x.setWidth(0, 8, 80);
        Checks.due("spaces", x.weight(1, 1, '1'), 51);
        x.setWidth(0, 9, 40);
        Checks.due("bars", x.weight(1, 0, '1'), 101);
        Checks.due("spaces", x.weight(1, 1, '1'), 51);
        // Of heads and tails as well.
        BarcodeEngine y = new BarcodeEngine();
        int head = pairs(y, "123456", 51);
        y.cut(head, 0, y.widthCount(head) - 5);
        y.setWidth(head, 26, 80);
        Checks.tail(y, "345678");
        Checks.same("the code", Checks.votes(y, 1), "12345678");
        Checks.due("bars of a head", y.weight(1, 0, '1'), 51);
        Checks.due("spaces of a head", y.weight(1, 1, '2'), 101);
        Checks.due("spaces of a head and a tail", y.weight(1, 5, '6'), 51 + 101);
        Checks.due("bars of a head and a tail", y.weight(1, 4, '5'), 202);
        Checks.due("bars of a tail", y.weight(1, 6, '7'), 101);
    }

    // "(... for the start and stop of Codabar, too)"
    private static void weightOfStartAndStop() {
        BarcodeEngine x = new BarcodeEngine();
        Checks.print(x, 2, "A1B", 40, 0, 0);
        x.setWidth(0, 1, 80);
        x.setWidth(0, 17, 79);
        Checks.due("start", x.weight(2, 0, 'A'), 51);
        Checks.due("inside", x.weight(2, 1, '1'), 101);
        Checks.due("stop: 150 * 41 / 120", x.weight(2, 2, 'B'), 52);
        BarcodeEngine y = new BarcodeEngine();
        int head = Checks.print(y, 2, "A123D", 40, 0, 0);
        y.cut(head, 0, y.widthCount(head) - 9);
        y.setWidth(head, 1, 80);
        int tail = Checks.print(y, 2, "D234B", 40, 0, 0);
        y.cut(tail, 8, y.widthCount(tail) - 1);
        y.setWidth(tail, 25, 79);
        Checks.same("the code", Checks.votes(y, 2), "A1234B");
        Checks.due("start of a head", y.weight(2, 0, 'A'), 51);
        Checks.due("stop of a tail", y.weight(2, 5, 'B'), 52);
        Checks.due("inside", y.weight(2, 2, '2'), 202);
    }

    // "Only the readings in one symbology are considered together."
    private static void oneSymbologyAlone() {
        BarcodeEngine x = new BarcodeEngine();
        String pair = "1111 3113111133 311";
        Checks.scan(x, "q" + EAN_LEFT + "11111" + EAN_RIGHT + "q" + pair + "q", 10);
        Checks.print(x, 0, "12345670");
        Checks.print(x, 1, "12");
        Checks.print(x, 2, "A1B");
        int[] lengths = {8, 2, 3};
        int[] weights = {202, 202, 101};
        for (int symbology = 0; symbology < 3; symbology++) {
            Checks.due("length", x.length(symbology), lengths[symbology]);
            Checks.due("weight", x.weight(symbology, 0, ALL), weights[symbology]);
        }
    }

    // ---- the length from whole codes

    // "The support of a length is the sum ... of the least weight of its characters."
    private static void supportIsTheLeastWeight() {
        // 3 characters of 101 against 2 characters, of which one has 100: the least one counts.
        BarcodeEngine x = new BarcodeEngine();
        Checks.print(x, 1, "1234");
        pairs(x, "12", 101);
        Checks.due("101 for 4, 101 for 2", x.length(1), 2);
        x.removeScan(1);
        pairs(x, "12", 100);
        Checks.due("101 for 4, 100 for 2", x.length(1), 4);
        // The least one may stand at any place.
        for (int place = 0; place < 8; place++) {
            BarcodeEngine y = new BarcodeEngine();
            Checks.print(y, 1, "123456");
            Checks.print(y, 1, "77777777", 40, 0, 0);
            Checks.due("101 for both", y.length(1), 6);
            y.setWidth(0, 5, 29);
            Checks.due("99 for 6", y.length(1), 8);
            int wide = 5 + place / 2 * 10 + place % 2 + 8;
            y.setWidth(1, wide, 118);
            Checks.due("150 * 78 / 118", y.confidence(1, 1, place), 99);
            Checks.due("100 for 8", y.length(1), 8);
            y.setWidth(1, wide, 117);
            y.setWidth(1, wide - 2, 116);
            Checks.due("150 * 76 / 116", y.confidence(1, 1, place), 98);
            Checks.due("99 for 8", y.length(1), 6);
        }
    }

    // "... the sum, over all scans with a whole code of this length"
    private static void supportIsASum() {
        BarcodeEngine x = new BarcodeEngine();
        Checks.print(x, 1, "12");
        pairs(x, "1234", 51);
        Checks.due("101 for 2, 51 for 4", x.length(1), 2);
        pairs(x, "1234", 51);
        Checks.due("101 for 2, 102 for 4", x.length(1), 4);
        x.removeScan(2);
        pairs(x, "1234", 50);
        Checks.due("101 for 2, 101 for 4", x.length(1), 2);
        Checks.print(x, 1, "123456");
        Checks.print(x, 1, "987654");
        Checks.due("101 for 2, 101 for 4, 202 for 6", x.length(1), 6);
    }

    // "the length of the symbology is the one with the greatest support, of several the least"
    private static void greatestSupportOrLeastLength() {
        for (int one = 2; one <= 14; one += 2) {
            for (int other = 2; other <= 14; other += 2) {
                BarcodeEngine x = new BarcodeEngine();
                Checks.print(x, 1, "12345678901234".substring(0, one));
                Checks.print(x, 1, "12345678901234".substring(0, other));
                Checks.due("lengths " + one + ", " + other, x.length(1), Math.min(one, other));
            }
        }
        for (int one = 3; one <= 16; one++) {
            BarcodeEngine x = new BarcodeEngine();
            Checks.print(x, 2, "A" + "12345678901234".substring(0, one - 2) + "B");
            Checks.due("the only length", x.length(2), one);
            Checks.print(x, 2, "A1234567B");
            Checks.due("lengths " + one + ", 9", x.length(2), Math.min(one, 9));
            Checks.print(x, 2, "A" + "99999999999999".substring(0, one - 2) + "B");
            Checks.due("the greatest support", x.length(2), one);
        }
    }

    // ---- the length from parts

    private static int eanHead(BarcodeEngine x, String digits) {
        int scan = Checks.print(x, 0, digits + "00000000".substring(digits.length()));
        x.cut(scan, 0, 4 * digits.length() + 4);
        return scan;
    }

    private static int eanTail(BarcodeEngine x, String digits) {
        int scan = Checks.print(x, 0, "00000000".substring(digits.length()) + digits);
        x.cut(scan, 40 - 4 * digits.length(), 44);
        return scan;
    }

    // "Otherwise, in EAN-8 the length is 8 if there are a head and a tail (of any scans)."
    private static void eanHeadAndTail() {
        for (int count = 1; count <= 4; count++) {
            BarcodeEngine x = new BarcodeEngine();
            int head = eanHead(x, "1234".substring(0, count));
            Checks.due("a head of " + count, x.readPart(head, 0, false), count < 2 ? 0 : count);
            Checks.due("a head alone", x.length(0), 0);
            int tail = eanTail(x, "5670".substring(4 - count));
            Checks.due("a tail of " + count, x.readPart(tail, 0, true), count < 2 ? 0 : count);
            Checks.due("a head and a tail of " + count, x.length(0), count < 2 ? 0 : 8);
            x.removeScan(head);
            Checks.due("a tail alone", x.length(0), 0);
        }
        BarcodeEngine y = new BarcodeEngine();
        eanTail(y, "70");
        eanTail(y, "670");
        Checks.due("two tails", y.length(0), 0);
        eanHead(y, "12");
        Checks.due("the head behind the tails", y.length(0), 8);
        y.removeScan(2);
        eanHead(y, "123");
        eanHead(y, "123");
        y.removeScan(0);
        y.removeScan(0);
        Checks.due("two heads", y.length(0), 0);
        BarcodeEngine z = new BarcodeEngine();
        Checks.due("no scan", z.length(0), 0);
        Checks.scan(z, 1, 1, 1);
        Checks.due("nothing is read", z.length(0), 0);
    }

    private static void eanPartsOfOneScan() {
        BarcodeEngine x = new BarcodeEngine();
        Checks.scan(x, "q" + EAN_LEFT + "q" + EAN_RIGHT + "q", 10);
        Checks.due("of one scan", x.length(0), 8);
        Checks.same("the code", Checks.votes(x, 0), "12345670");
    }

    // "If there are whole codes, ... Otherwise ..."
    private static void wholeCodeBeforeParts() {
        BarcodeEngine x = new BarcodeEngine();
        Checks.head(x, "123456");
        Checks.tail(x, "345678");
        Checks.due("parts", x.length(1), 8);
        pairs(x, "12", 50);
        Checks.due("a whole code of little support", x.length(1), 2);
        x.removeScan(2);
        Checks.due("parts", x.length(1), 8);
    }

    private static final String BOTH = "q 1111 3113111133 1131311313 99 3113111133 1131311313 311 q";

    // "consider all pairs of the head of a scan i and the tail of another scan j"
    private static void twoScansNeeded() {
        BarcodeEngine x = new BarcodeEngine();
        Checks.scan(x, BOTH, 10);
        Checks.same("a head and a tail", Checks.seen(x, 0, 1), "1267~1267");
        Checks.due("of one scan", x.length(1), 0);
        Checks.scan(x, BOTH, 10);
        Checks.due("of two scans", x.length(1), 4);
        x.removeScan(0);
        Checks.due("of one scan", x.length(1), 0);
    }

    // "all numbers o of at least 2 such that the last o characters of the head equal the first o
    // characters of the tail"
    private static void overlapOfAtLeastTwo() {
        String[][] codabar = {
            {"A1234", "567B", "0"}, {"A1234", "456B", "0"}, {"A1234", "345B", "7"}, {"A1234", "234B", "6"},
            {"A1234", "2345B", "7"}, {"A1234", "1234B", "6"}, {"A1234", "11234B", "0"}, {"A1234", "35B", "0"},
            {"A1234", "34B", "6"}, {"A12", "12B", "4"}, {"A1", "1B", "0"}, {"A11", "11B", "4"}, {"A111", "1111B", "6"}};
        for (String[] two : codabar) {
            BarcodeEngine x = new BarcodeEngine();
            Checks.codabarHead(x, two[0]);
            Checks.codabarTail(x, two[1]);
            Checks.due("length of " + two[0] + " and " + two[1], x.length(2), Integer.parseInt(two[2]));
        }
        String[][] pairs = {{"1234", "5678", "0"}, {"1234", "4567", "0"}, {"1234", "3456", "6"}, {"1234", "1234", "4"},
            {"12", "12", "2"}, {"12", "34", "0"}, {"12", "1234", "4"}, {"1112", "1211", "6"}, {"1111", "1111", "4"}};
        for (String[] two : pairs) {
            BarcodeEngine x = new BarcodeEngine();
            Checks.head(x, two[0]);
            Checks.tail(x, two[1]);
            Checks.due("length of " + two[0] + " and " + two[1], x.length(1), Integer.parseInt(two[2]));
        }
    }

    // "... is a length that a code can have"
    private static void lengthsThatACodeCanHave() {
        String[][] codabar = {{"A1234567890", "90123456B", "17"}, {"A1234567890", "9012345B", "17"}, {"A123456789", "89012345B", "17"},
            {"A123456789", "8901234B", "16"}, {"A12345678901234", "34B", "16"}, {"A12345678901234", "345B", "17"},
            {"A34", "34567890123456B", "16"}, {"A134", "34567890123456B", "17"}};
        for (String[] two : codabar) {
            BarcodeEngine x = new BarcodeEngine();
            Checks.codabarHead(x, two[0]);
            Checks.codabarTail(x, two[1]);
            int sum = two[0].length() + two[1].length() - 2;
            int want = sum > 16 ? 0 : Integer.parseInt(two[2]);
            Checks.due("length of " + two[0] + " and " + two[1], x.length(2), want);
        }
        // 14 digits at most, and an even number of them.
        BarcodeEngine x = new BarcodeEngine();
        Checks.head(x, "12345678");
        Checks.tail(x, "7890123456");
        Checks.due("16 digits", x.length(1), 0);
        Checks.tail(x, "78901234");
        Checks.due("14 digits", x.length(1), 14);
        BarcodeEngine y = new BarcodeEngine();
        Checks.head(y, "9111");
        Checks.tail(y, "111222");
        Checks.due("o of 3 would make 7, and 2 makes 8", y.length(1), 8);
        // A smaller overlap would make a code too long, the greatest one does not.
        BarcodeEngine z = new BarcodeEngine();
        Checks.codabarHead(z, "A1111111111");
        Checks.codabarTail(z, "1111111111B");
        Checks.due("o of 10", z.length(2), 12);
    }

    // "The pair with the greatest o counts"
    private static void greatestOverlap() {
        BarcodeEngine x = new BarcodeEngine();
        Checks.codabarHead(x, "A12345");
        Checks.codabarTail(x, "456789B");
        Checks.due("o of 2", x.length(2), 11);
        Checks.codabarTail(x, "34567B");
        Checks.due("o of 3", x.length(2), 9);
        Checks.codabarTail(x, "3456B");
        Checks.due("o of 3, the lower one", x.length(2), 9);
        Checks.codabarTail(x, "23456789012B");
        Checks.due("o of 4", x.length(2), 14);
        Checks.codabarHead(x, "A0023456789");
        Checks.due("o of 8", x.length(2), 15);
        x.removeScan(4);
        Checks.due("o of 6, 4 5 6 7 8 9", x.length(2), 11 + 7 - 6);
    }

    // "of several the one with the lowest i, then the lowest j"
    private static void lowestHeadThenLowestTail() {
        // Heads 1 and 3, tails 0, 2, 4; each head fits each tail with 2 characters.
        BarcodeEngine x = new BarcodeEngine();
        Checks.codabarTail(x, "1234567B");
        Checks.codabarHead(x, "A0012");
        Checks.codabarTail(x, "123B");
        Checks.codabarHead(x, "A12");
        Checks.codabarTail(x, "1234B");
        Checks.due("head 1 and tail 0", x.length(2), 5 + 8 - 2);
        x.removeScan(0);
        Checks.due("head 0 and tail 1", x.length(2), 5 + 4 - 2);
        x.removeScan(1);
        Checks.due("head 0 and tail 2", x.length(2), 5 + 5 - 2);
        x.removeScan(0);
        Checks.due("head 0 and tail 1", x.length(2), 3 + 5 - 2);
        // A lower head with a higher tail comes before a higher head with a lower tail.
        BarcodeEngine y = new BarcodeEngine();
        Checks.codabarTail(y, "3456B");
        Checks.codabarHead(y, "A12");
        Checks.codabarHead(y, "A9934");
        Checks.codabarTail(y, "12789012B");
        Checks.due("head 1 and tail 3, not head 2 and tail 0", y.length(2), 3 + 9 - 2);
        y.removeScan(1);
        Checks.due("head 1 and tail 0", y.length(2), 5 + 5 - 2);
    }

    // ---- the votes

    // "the characters of all whole codes of length L vote at their places 0 to L - 1"
    private static void wholeCodesOfTheLengthVote() {
        BarcodeEngine x = new BarcodeEngine();
        Checks.print(x, 1, "1234");
        Checks.print(x, 1, "1234");
        Checks.print(x, 1, "56");
        Checks.print(x, 1, "567890");
        Checks.due("length", x.length(1), 4);
        for (int place = 0; place < 4; place++) {
            Checks.due("votes of two codes", x.weight(1, place, ALL), 202);
            Checks.due("votes of two codes", x.weight(1, place, '1' + place), 202);
        }
        Checks.index("place 4", () -> x.weight(1, 4, ALL));
    }

    // "the characters of heads with at most L characters vote at the places from 0 on"
    private static void headsUpToTheLengthVote() {
        for (int count = 2; count <= 14; count += 2) {
            BarcodeEngine x = new BarcodeEngine();
            Checks.print(x, 1, "88888888");
            Checks.head(x, "12345678901234".substring(0, count));
            for (int place = 0; place < 8; place++) {
                boolean votes = count <= 8 && place < count;
                Checks.due("a head of " + count + " at " + place, x.weight(1, place, ALL), votes ? 202 : 101);
                int own = "12345670".charAt(place) - (place == 7 ? -8 : 0);
                Checks.due("its character", x.weight(1, place, own), own == '8' ? (votes ? 202 : 101) : votes ? 101 : 0);
            }
        }
    }

    // "those of tails with at most L characters at the places up to L - 1"
    private static void tailsUpToTheLengthVote() {
        for (int count = 2; count <= 14; count += 2) {
            BarcodeEngine x = new BarcodeEngine();
            Checks.print(x, 1, "99999999");
            Checks.tail(x, "12345612345678".substring(14 - count));
            for (int place = 0; place < 8; place++) {
                boolean votes = count <= 8 && place >= 8 - count;
                Checks.due("a tail of " + count + " at " + place, x.weight(1, place, ALL), votes ? 202 : 101);
                Checks.due("its character", x.weight(1, place, '1' + place), votes ? 101 : 0);
            }
        }
    }

    // Heads and tails of Codabar with as many characters as the code, and with one more.
    private static void codabarPartsOfTheLengthVote() {
        BarcodeEngine x = new BarcodeEngine();
        Checks.print(x, 2, "C00D");
        Checks.codabarHead(x, "A12");
        Checks.due("a head of 3", x.weight(2, 0, 'A'), 101);
        Checks.codabarHead(x, "A123");
        Checks.due("a head of 4", x.weight(2, 0, 'A'), 202);
        Checks.due("its last character", x.weight(2, 3, '3'), 101);
        Checks.codabarHead(x, "A1234");
        Checks.due("a head of 5", x.weight(2, 0, 'A'), 202);
        Checks.codabarTail(x, "12B");
        Checks.due("a tail of 3", x.weight(2, 3, 'B'), 101);
        Checks.codabarTail(x, "123B");
        Checks.due("a tail of 4", x.weight(2, 3, 'B'), 202);
        Checks.due("its first character", x.weight(2, 0, '1'), 101);
        Checks.codabarTail(x, "1234B");
        Checks.due("a tail of 5", x.weight(2, 3, 'B'), 202);
        Checks.due("all at the first place", x.weight(2, 0, ALL), 404);
        Checks.due("all at the last place", x.weight(2, 3, ALL), 404);
    }

    // The longest codes vote at all their places.
    private static void placesAtTheEnds() {
        BarcodeEngine x = new BarcodeEngine();
        Checks.print(x, 2, "A1234567890123-D");
        Checks.codabarHead(x, "A12345678901234");
        Checks.codabarTail(x, "2345678901234-D");
        Checks.due("place 0", x.weight(2, 0, 'A'), 202);
        Checks.due("place 15", x.weight(2, 15, 'D'), 202);
        Checks.due("place 14", x.weight(2, 14, ALL), 303);
        Checks.due("place 1", x.weight(2, 1, ALL), 303);
        Checks.index("place 16", () -> x.weight(2, 16, ALL));
        Checks.index("place -1", () -> x.weight(2, -1, ALL));
    }

    // "A character has the majority at a place if twice the sum of the weights of the votes for it is
    // greater than the sum of the weights of all votes at the place."
    private static void moreThanTheHalf() {
        BarcodeEngine x = new BarcodeEngine();
        pairs(x, "12", 50);
        pairs(x, "32", 51);
        Checks.due("51 of 101", x.voted(1, 0), '3');
        x.removeScan(0);
        pairs(x, "12", 51);
        Checks.due("51 of 102", x.voted(1, 0), -1);
        x.removeScan(1);
        pairs(x, "12", 101);
        Checks.due("101 of 152", x.voted(1, 0), '1');
        pairs(x, "82", 51);
        Checks.due("101 of 203: 202 are too few", x.voted(1, 0), -1);
        x.removeScan(2);
        pairs(x, "82", 50);
        Checks.due("101 of 202: 202 are too few", x.voted(1, 0), -1);
        x.removeScan(0);
        pairs(x, "32", 50);
        Checks.due("101 of 201: 202 are enough", x.voted(1, 0), '1');
    }

    private static void noVotesAtAll() {
        BarcodeEngine x = new BarcodeEngine();
        eanHead(x, "123");
        eanTail(x, "670");
        for (int place = 0; place < 8; place++) {
            int want = "123##670".charAt(place);
            Checks.due("votes", x.weight(0, place, ALL), want == '#' ? 0 : 101);
            Checks.due("majority", x.voted(0, place), want == '#' ? -1 : want);
        }
        Checks.due("places without votes have no majority", x.problem(0), 2);
        Checks.due("the first of them", x.doubtful(0), 3);
        Checks.state("there are two", () -> x.repaired(0));
    }

    // 24 scans, of which each one votes.
    private static void everythingFull() {
        BarcodeEngine x = new BarcodeEngine();
        for (int i = 0; i < 24; i++) {
            Checks.print(x, 2, i < 12 ? "A1234567890123-D" : "B1234567890123-C");
        }
        Checks.due("length", x.length(2), 16);
        Checks.due("all of them", x.weight(2, 1, '1'), 24 * 101);
        Checks.due("the half", x.weight(2, 0, 'A'), 12 * 101);
        Checks.due("the half", x.voted(2, 0), -1);
        Checks.due("all", x.voted(2, 14), '-');
        x.removeScan(23);
        Checks.due("more than the half", x.voted(2, 0), 'A');
        Checks.due("all but one", x.weight(2, 1, ALL), 23 * 101);
    }

    // ---- section 5

    private static int problem(int symbology, String text) {
        BarcodeEngine x = new BarcodeEngine();
        x.setCheck(symbology, true);
        Checks.print(x, symbology, text);
        return x.problem(symbology);
    }

    private static void digitsAlone(int symbology, int length) {
        String zeros = "00000000000000".substring(0, length);
        Checks.due("a sum of 0", problem(symbology, zeros), 0);
        for (int place = 0; place < length; place++) {
            for (int digit = 1; digit <= 9; digit++) {
                StringBuilder text = new StringBuilder(zeros);
                text.setCharAt(place, (char) ('0' + digit));
                Checks.due("check of " + text, problem(symbology, text.toString()), 3);
                // 3 * 7 and 3 * 3 make up for what 1, 2, ... lacks: the last place counts once.
                int lacking = place == length - 1 ? -1 : 10 - (place % 2 == 0 ? 3 * digit : digit) % 10;
                if (lacking >= 0) {
                    text.setCharAt(length - 1, (char) ('0' + lacking % 10));
                    Checks.due("check of " + text, problem(symbology, text.toString()), 0);
                }
            }
        }
    }

    // "in EAN-8, if the sum of 3 * (digits at the places 0, 2, 4, 6) and the digits at the places
    // 1, 3, 5, 7 is divisible by 10"
    private static void eanCheck() {
        digitsAlone(0, 8);
        Checks.due("3 * 36 + 36 = 144", problem(0, "99999999"), 3);
        Checks.due("3 * 36 + 32 = 140", problem(0, "99999995"), 0);
    }

    // "in Interleaved 2 of 5 likewise, with all even and odd places"
    private static void interleavedCheck() {
        for (int length = 2; length <= 14; length += 2) {
            digitsAlone(1, length);
        }
        Checks.due("3 * 63 + 63 = 252", problem(1, "99999999999999"), 3);
        Checks.due("3 * 63 + 61 = 250", problem(1, "99999999999997"), 0);
    }

    // "in Codabar, if the sum of the values of all its characters is divisible by 16, where the digits
    // 0 to 9 have the values 0 to 9, and - $ : / . + A B C D the values 10 to 19 in this order"
    private static void codabarCheck() {
        String values = "0123456789-$:/.+ABCD";
        for (int first = 16; first < 20; first++) {
            for (int last = 16; last < 20; last++) {
                for (int inner = 0; inner < 16; inner++) {
                    String text = "" + values.charAt(first) + values.charAt(inner) + values.charAt(last);
                    boolean isRight = first + inner + last == 32 || first + inner + last == 48;
                    Checks.due("check of " + text, problem(2, text), isRight ? 0 : 3);
                }
            }
        }
        Checks.due("16 + 14 * 15 + 16 = 242", problem(2, "A++++++++++++++A"), 3);
        Checks.due("16 + 13 * 15 + 13 + 16 = 240", problem(2, "A+++++++++++++/A"), 0);
    }

    // "at first it is on for EAN-8 and off for the others"
    private static void checksAtFirst() {
        BarcodeEngine x = new BarcodeEngine();
        Checks.print(x, 0, "00000001");
        Checks.print(x, 1, "01");
        Checks.print(x, 2, "A1A");
        Checks.due("on for EAN-8", x.problem(0), 3);
        Checks.due("off for Interleaved 2 of 5", x.problem(1), 0);
        Checks.due("off for Codabar", x.problem(2), 0);
        for (int symbology = 0; symbology < 3; symbology++) {
            Checks.due("what it was", x.setCheck(symbology, symbology != 0), symbology == 0);
        }
        Checks.due("off for EAN-8", x.problem(0), 0);
        Checks.due("on for Interleaved 2 of 5", x.problem(1), 3);
        Checks.due("on for Codabar", x.problem(2), 3);
    }
}
