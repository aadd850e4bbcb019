/** Promises 29 to 38: lengths, votes, checks and the winner. */
public final class VotesTest {
    private static final int[] NO_SYMBOLOGY = {-1, 3, Integer.MIN_VALUE, Integer.MAX_VALUE};
    private static final int[] NO_PLACE = {-1, 4, 16, 20, Integer.MIN_VALUE, Integer.MAX_VALUE};

    public static void main(String[] args) {
        noSymbologyOrPlace();
        lengthOfWholeCodes();
        lengthOfParts();
        lengthOfPairsOfParts();
        weight();
        weightOfParts();
        voted();
        runnerUp();
        problem();
        doubtful();
        repaired();
        repairedCodabar();
        winner();
        worstScan();
        setCheck();
        Checks.end("VotesTest");
    }

    private static void noSymbologyOrPlace() {
        BarcodeEngine x = new BarcodeEngine();
        Checks.print(x, 1, "1234");
        for (int s : NO_SYMBOLOGY) {
            Checks.index("length", () -> x.length(s));
            Checks.index("weight", () -> x.weight(s, 0, '1'));
            Checks.index("voted", () -> x.voted(s, 0));
            Checks.index("runnerUp", () -> x.runnerUp(s, 0));
            Checks.index("problem", () -> x.problem(s));
            Checks.index("doubtful", () -> x.doubtful(s));
            Checks.index("repaired", () -> x.repaired(s));
            Checks.index("worstScan", () -> x.worstScan(s));
            Checks.index("setCheck", () -> x.setCheck(s, true) ? 1 : 0);
        }
        for (int place : NO_PLACE) {
            Checks.index("weight", () -> x.weight(1, place, '1'));
            Checks.index("weight of all", () -> x.weight(1, place, BarcodeEngine.NONE));
            Checks.index("voted", () -> x.voted(1, place));
            Checks.index("runnerUp", () -> x.runnerUp(1, place));
        }
        Checks.index("weight without a length", () -> x.weight(0, 0, '1'));
        Checks.index("voted without a length", () -> x.voted(0, 0));
        Checks.index("runnerUp without a length", () -> x.runnerUp(2, 0));
        Checks.state("repaired without a length", () -> x.repaired(0));
        Checks.element("worstScan without a length", () -> x.worstScan(0));
    }

    private static int eanPart(BarcodeEngine x, String digits, boolean isTail) {
        int scan = Checks.print(x, 0, digits);
        x.cut(scan, isTail ? 24 : 0, isTail ? 44 : 20);
        return scan;
    }

    private static String votes(BarcodeEngine x, int symbology) {
        return Checks.votes(x, symbology);
    }

    // Promise 29
    private static void lengthOfWholeCodes() {
        BarcodeEngine x = new BarcodeEngine();
        Checks.due("no scan", x.length(1), 0);
        Checks.print(x, 1, "123456");
        Checks.due("one code", x.length(1), 6);
        Checks.print(x, 1, "1234");
        Checks.due("of equal supports the least length", x.length(1), 4);
        // The least weight of its characters counts: 150 * 19 / 29 is 98.
        x.setWidth(1, 5, 29);
        Checks.due("one confidence", x.confidence(1, 1, 0), 98);
        Checks.due("another one", x.confidence(1, 1, 1), 100);
        Checks.due("101 for 6, 99 for 4", x.length(1), 6);
        Checks.print(x, 1, "9876");
        Checks.due("the sum of two supports", x.length(1), 4);
        x.removeScan(2);
        x.removeScan(0);
        Checks.due("the only one", x.length(1), 4);
        Checks.due("other symbologies", x.length(0), 0);
        Checks.due("other symbologies", x.length(2), 0);
        BarcodeEngine y = new BarcodeEngine();
        Checks.print(y, 2, "A12B");
        Checks.print(y, 2, "C12345678901234D");
        Checks.print(y, 2, "C12345678901234D");
        Checks.due("two long codes", y.length(2), 16);
        // A narrow width of 20 beside wide ones of 30: 150 * 10 / 30 is 50.
        y.setWidth(1, 1, 20);
        y.setWidth(2, 1, 20);
        Checks.due("confidence 50", y.confidence(1, 2, 0), 50);
        Checks.due("102 for 16, 101 for 4", y.length(2), 16);
        y.setWidth(2, 9, 20);
        y.setWidth(2, 13, 29);
        Checks.due("confidence 46", y.confidence(2, 2, 1), 46);
        Checks.due("98 for 16, 101 for 4", y.length(2), 4);
        y.removeScan(0);
        Checks.due("98 for 16", y.length(2), 16);
        lengthOfEqualSupports();
    }

    private static void lengthOfEqualSupports() {
        BarcodeEngine x = new BarcodeEngine();
        Checks.print(x, 2, "A12B");
        for (int i = 1; i <= 2; i++) {
            Checks.print(x, 2, "C123D", 40, 0, 0);
            x.setWidth(i, 1, 80);
        }
        Checks.due("102 for 5", x.length(2), 5);
        for (int index : new int[] {4, 6, 7}) {
            x.setWidth(2, index, index == 4 ? 119 : 120);
        }
        Checks.due("confidence 50", x.confidence(1, 2, 0), 50);
        Checks.due("confidence 49", x.confidence(2, 2, 0), 49);
        Checks.due("51 and 50 for 5, 101 for 4", x.length(2), 4);
    }

    private static void lengthOfParts() {
        BarcodeEngine x = new BarcodeEngine();
        eanPart(x, "12345670", false);
        Checks.due("a head", x.length(0), 0);
        eanPart(x, "12345670", false);
        Checks.due("two heads", x.length(0), 0);
        eanPart(x, "12345670", true);
        Checks.due("heads and a tail", x.length(0), 8);
        x.removeScan(1);
        x.removeScan(0);
        Checks.due("a tail", x.length(0), 0);
        // Of the same scan, and of 2 and 3 digits.
        BarcodeEngine y = new BarcodeEngine();
        Checks.scan(y, "q 111 2221 2122 q 1114 1312 3211 111 q", 10);
        Checks.same("a head", Checks.part(y, 0, 0, false), "12");
        Checks.same("a tail", Checks.part(y, 0, 0, true), "670");
        Checks.due("of the same scan", y.length(0), 8);
        Checks.same("their votes", votes(y, 0), "12???670");
        // In the others two scans are needed.
        BarcodeEngine z = new BarcodeEngine();
        Checks.scan(z, "q 1111 3113111133 1333111131 99 3113111133 1333111131 311 q", 10);
        Checks.same("a head", Checks.part(z, 0, 1, false), "1223");
        Checks.same("a tail", Checks.part(z, 0, 1, true), "1223");
        Checks.due("of the same scan", z.length(1), 0);
        Checks.tail(z, "2345");
        Checks.due("of two scans", z.length(1), 6);
        Checks.same("their votes", votes(z, 1), "1223??");
        Checks.print(z, 1, "98");
        Checks.due("whole codes before parts", z.length(1), 2);
        Checks.same("no part has at most 2", votes(z, 1), "98");
    }

    private static void lengthOfPairsOfParts() {
        BarcodeEngine x = new BarcodeEngine();
        Checks.head(x, "123456");
        Checks.tail(x, "5678");
        Checks.due("overlap of 2", x.length(1), 8);
        Checks.tail(x, "34567890");
        Checks.due("the greatest overlap, of 4", x.length(1), 10);
        Checks.tail(x, "345698");
        Checks.due("of several the lowest tail", x.length(1), 10);
        x.removeScan(2);
        Checks.due("the other one", x.length(1), 8);
        Checks.head(x, "12123456");
        Checks.due("of several the lowest head", x.length(1), 8);
        x.removeScan(0);
        Checks.due("the other one", x.length(1), 10);
        BarcodeEngine y = new BarcodeEngine();
        // Lowest head before lowest tail: heads 1 and 2, tails 0 and 3, all with overlaps of 2.
        Checks.tail(y, "9876");
        Checks.head(y, "1212");
        Checks.head(y, "3498");
        Checks.tail(y, "121234");
        Checks.due("overlap of 4 of head 1 and tail 3", y.length(1), 6);
        y.removeScan(3);
        Checks.due("head 2 and tail 0", y.length(1), 6);
        Checks.tail(y, "12345678");
        Checks.due("head 1 and tail 3", y.length(1), 10);
        y.removeScan(1);
        Checks.due("head 2 and tail 0 again", y.length(1), 6);
        // Codabar: an overlap of 1 is too little; the length must be one that a code can have.
        BarcodeEngine z = new BarcodeEngine();
        Checks.codabarHead(z, "A1234");
        Checks.codabarTail(z, "4567B");
        Checks.due("overlap of 1", z.length(2), 0);
        Checks.codabarTail(z, "34567B");
        Checks.due("overlap of 2", z.length(2), 9);
        BarcodeEngine w = new BarcodeEngine();
        Checks.codabarHead(w, "A12345678901234");
        Checks.codabarTail(w, "3456789B");
        Checks.due("length 21", w.length(2), 0);
        Checks.codabarTail(w, "234B");
        Checks.due("length 16", w.length(2), 16);
        Checks.same("their votes", votes(w, 2), "A1234567????234B");
    }

    // Promise 30
    private static void weight() {
        BarcodeEngine x = new BarcodeEngine();
        Checks.print(x, 1, "1234");
        Checks.print(x, 1, "1934");
        Checks.print(x, 1, "1934");
        Checks.print(x, 1, "1234567890");
        Checks.due("length", x.length(1), 4);
        Checks.due("weight", x.weight(1, 0, '1'), 303);
        Checks.due("weight of all", x.weight(1, 0, -1), 303);
        Checks.due("weight", x.weight(1, 1, '2'), 101);
        Checks.due("weight", x.weight(1, 1, '9'), 202);
        Checks.due("weight of all", x.weight(1, 1, -1), 303);
        for (int c : new int[] {'0', '/', ':', 'A', -2, 0, 1, 9, 10, 255, 256, '1' + 256, '2' + 65536,
            Integer.MIN_VALUE, Integer.MAX_VALUE}) {
            Checks.due("weight of " + c, x.weight(1, 1, c), 0);
        }
        // Each digit of a pair has its own weight.
        x.setWidth(0, 6, 20);
        Checks.due("weight of a doubtful space", x.weight(1, 1, '2'), 1 + x.confidence(0, 1, 1));
        Checks.due("it is less", x.confidence(0, 1, 1), 50);
        Checks.due("weight of the bars", x.weight(1, 0, '1'), 303);
        // The start and stop of Codabar too.
        BarcodeEngine y = new BarcodeEngine();
        Checks.print(y, 2, "A$B");
        y.setWidth(0, 1, 20);
        Checks.due("weight of a start", y.weight(2, 0, 'A'), 51);
        Checks.due("weight", y.weight(2, 1, '$'), 101);
        Checks.due("weight of a stop", y.weight(2, 2, 'B'), 101);
        Checks.due("weight of another one", y.weight(2, 2, 'A'), 0);
    }

    private static void weightOfParts() {
        BarcodeEngine x = new BarcodeEngine();
        Checks.print(x, 1, "123456");
        Checks.head(x, "1278");
        Checks.tail(x, "9956");
        Checks.head(x, "12345678");
        Checks.tail(x, "90123456");
        Checks.due("length", x.length(1), 6);
        Checks.due("two votes", x.weight(1, 0, '1'), 202);
        Checks.due("the head votes", x.weight(1, 2, '7'), 101);
        Checks.due("the tail votes", x.weight(1, 2, '9'), 101);
        Checks.due("the whole code votes", x.weight(1, 2, '3'), 101);
        Checks.due("all", x.weight(1, 2, -1), 303);
        Checks.due("all", x.weight(1, 3, -1), 303);
        Checks.due("the tail votes", x.weight(1, 5, '6'), 202);
        Checks.due("longer parts don't", x.weight(1, 5, -1), 202);
        Checks.head(x, "123457");
        Checks.tail(x, "223456");
        Checks.due("a head of the length", x.weight(1, 5, '7'), 101);
        Checks.due("a tail of the length", x.weight(1, 0, '2'), 101);
        // Whole codes of other lengths don't vote.
        Checks.print(x, 1, "99999999");
        Checks.due("a code of another length", x.weight(1, 0, '9'), 0);
        Checks.due("of equal supports the least length", x.length(1), 6);
    }

    // Promise 31
    private static void voted() {
        BarcodeEngine x = new BarcodeEngine();
        Checks.print(x, 1, "1234");
        Checks.same("one", votes(x, 1), "1234");
        Checks.print(x, 1, "1235");
        Checks.same("just the half is no majority", votes(x, 1), "123?");
        Checks.due("NONE", x.voted(1, 3), -1);
        Checks.print(x, 1, "1236");
        Checks.same("a third", votes(x, 1), "123?");
        Checks.print(x, 1, "1236");
        Checks.same("two of four", votes(x, 1), "123?");
        Checks.print(x, 1, "1236");
        Checks.same("three of five", votes(x, 1), "1236");
        // By weights, not by scans: two of 51 against one of 101, and one of 52.
        BarcodeEngine y = new BarcodeEngine();
        Checks.print(y, 2, "A1B");
        Checks.print(y, 2, "C1B");
        Checks.print(y, 2, "C1B");
        y.setWidth(1, 1, 20);
        y.setWidth(2, 1, 20);
        Checks.due("102 of 203", y.voted(2, 0), 'C');
        y.setWidth(2, 4, 29);
        Checks.due("C has 98", y.weight(2, 0, 'C'), 98);
        Checks.due("101 of 199", y.voted(2, 0), 'A');
    }

    // Promise 32
    private static void runnerUp() {
        BarcodeEngine x = new BarcodeEngine();
        Checks.print(x, 2, "A1B");
        Checks.due("one", x.runnerUp(2, 1), -1);
        Checks.print(x, 2, "A:B");
        Checks.due("equal ones by their codes", x.runnerUp(2, 1), ':');
        Checks.due("the same", x.runnerUp(2, 0), -1);
        Checks.print(x, 2, "A$B");
        Checks.due("of three equal ones: $ 1 :", x.runnerUp(2, 1), '1');
        Checks.print(x, 2, "A:B");
        Checks.due("of : $ 1", x.runnerUp(2, 1), '$');
        Checks.print(x, 2, "A1B");
        Checks.due("of 1 : $", x.runnerUp(2, 1), ':');
        Checks.print(x, 2, "A+B");
        Checks.print(x, 2, "A+B");
        Checks.print(x, 2, "A+B");
        Checks.due("of + 1 : $", x.runnerUp(2, 1), '1');
        Checks.print(x, 2, "C1D");
        Checks.print(x, 2, "C-D");
        Checks.due("of + 1 : $ -", x.runnerUp(2, 1), '1');
        Checks.due("of A and C", x.runnerUp(2, 0), 'C');
        // EAN-8 from parts: places without any votes.
        BarcodeEngine y = new BarcodeEngine();
        Checks.scan(y, "q 111 2221 2122 q 1114 1312 3211 111 q", 10);
        Checks.due("no votes", y.runnerUp(0, 3), -1);
        Checks.due("no votes", y.voted(0, 3), -1);
        Checks.due("no votes", y.weight(0, 3, -1), 0);
        for (String all : new String[] {"$+-./", "09:", "ABCD"}) {
            ordered(all);
        }
    }

    /** Of characters with one vote each, in any order, the second one by ASCII is the runner-up. */
    private static void ordered(String all) {
        for (int a = 0; a < all.length(); a++) {
            for (int b = 0; b < all.length(); b++) {
                BarcodeEngine x = new BarcodeEngine();
                boolean isLetter = all.charAt(0) == 'A';
                Checks.print(x, 2, isLetter ? all.charAt(a) + "1A" : "A" + all.charAt(a) + "A");
                Checks.print(x, 2, isLetter ? all.charAt(b) + "1A" : "A" + all.charAt(b) + "A");
                int want = a == b ? -1 : all.charAt(Math.max(a, b));
                Checks.due("runner-up", x.runnerUp(2, isLetter ? 0 : 1), want);
            }
        }
    }

    // Promise 33
    private static void problem() {
        BarcodeEngine x = new BarcodeEngine();
        for (int s = 0; s < 3; s++) {
            Checks.due("no length", x.problem(s), 1);
        }
        Checks.print(x, 0, "12345670");
        Checks.due("a right check", x.problem(0), 0);
        Checks.print(x, 0, "12345671");
        Checks.due("no majority", x.problem(0), 2);
        Checks.print(x, 0, "12345671");
        Checks.due("a wrong check", x.problem(0), 3);
        x.setCheck(0, false);
        Checks.due("the check is off", x.problem(0), 0);
        Checks.print(x, 1, "1235");
        Checks.due("the check is off", x.problem(1), 0);
        x.setCheck(1, true);
        Checks.due("3 * 1 + 2 + 3 * 3 + 5 = 19", x.problem(1), 3);
        Checks.print(x, 2, "A12B");
        Checks.due("the check is off", x.problem(2), 0);
        x.setCheck(2, true);
        Checks.due("16 + 1 + 2 + 17 = 36", x.problem(2), 3);
        right(0, "00000000", "10000007", "01000009", "00100007", "98765430", "99999995");
        right(1, "00", "17", "23456710", "1236", "12345678901231");
        right(2, "A0A", "A12:B", "C-$:/.+0D", "B/2D");
        BarcodeEngine y = new BarcodeEngine();
        eanPart(y, "12345670", false);
        Checks.due("a head alone", y.problem(0), 1);
        eanPart(y, "12345670", true);
        Checks.due("head and tail", y.problem(0), 0);
        BarcodeEngine z = new BarcodeEngine();
        Checks.scan(z, "q 111 2221 2122 q 1114 1312 3211 111 q", 10);
        Checks.due("places without votes", z.problem(0), 2);
    }

    private static void right(int symbology, String... codes) {
        String values = "0123456789-$:/.+ABCD";
        for (String code : codes) {
            int sum = 0;
            for (int i = 0; i < code.length(); i++) {
                sum += values.indexOf(code.charAt(i)) * (symbology < 2 && i % 2 == 0 ? 3 : 1);
            }
            BarcodeEngine x = new BarcodeEngine();
            x.setCheck(symbology, true);
            Checks.print(x, symbology, code);
            Checks.due("check of " + code, x.problem(symbology), sum % (symbology < 2 ? 10 : 16) == 0 ? 0 : 3);
        }
    }

    // Promise 34
    private static void doubtful() {
        BarcodeEngine x = new BarcodeEngine();
        Checks.due("no length", x.doubtful(1), -1);
        Checks.print(x, 1, "1234");
        Checks.due("no such place", x.doubtful(1), -1);
        Checks.print(x, 1, "1235");
        Checks.due("the last place", x.doubtful(1), 3);
        Checks.print(x, 1, "1335");
        Checks.due("3 and 5 have two thirds", x.doubtful(1), -1);
        Checks.print(x, 1, "1335");
        Checks.due("the first one of two", x.doubtful(1), 1);
        Checks.print(x, 1, "2235");
        Checks.due("none", x.doubtful(1), -1);
        BarcodeEngine y = new BarcodeEngine();
        Checks.print(y, 1, "12");
        Checks.print(y, 1, "32");
        Checks.due("the first place", y.doubtful(1), 0);
    }

    // Promise 35
    private static void repaired() {
        BarcodeEngine x = new BarcodeEngine();
        Checks.state("no length", () -> x.repaired(0));
        Checks.print(x, 0, "12345670");
        Checks.state("no place", () -> x.repaired(0));
        Checks.print(x, 0, "12349670");
        Checks.due("one place", x.repaired(0), '5');
        x.setCheck(0, false);
        Checks.due("with the check off", x.repaired(0), '5');
        x.setWidth(0, 0, 1);
        x.setWidth(0, 44, 1);
        Checks.state("the place has a majority", () -> x.repaired(0));
        Checks.print(x, 0, "12349679");
        Checks.due("the last place: 3 * 20 + 12", x.repaired(0), '8');
        Checks.print(x, 0, "22349676");
        Checks.print(x, 0, "22349676");
        Checks.state("two places", () -> x.repaired(0));
        // The repaired character need not have votes.
        BarcodeEngine y = new BarcodeEngine();
        Checks.print(y, 1, "1234");
        Checks.print(y, 1, "1934");
        Checks.due("3 * 1 + ? + 3 * 3 + 4", y.repaired(1), '4');
        BarcodeEngine z = new BarcodeEngine();
        Checks.print(z, 1, "1034");
        Checks.print(z, 1, "2034");
        Checks.due("3 * ? + 0 + 3 * 3 + 4", z.repaired(1), '9');
        for (char c = '0'; c <= '9'; c++) {
            BarcodeEngine w = new BarcodeEngine();
            Checks.put(w, "1" + c + "5");
            int check = w.checkCharacter(1, 3);
            BarcodeEngine v = new BarcodeEngine();
            Checks.print(v, 1, "1" + (c == '0' ? '1' : '0') + "5" + (char) check);
            Checks.print(v, 1, "1" + (c == '9' ? '8' : '9') + "5" + (char) check);
            Checks.due("the digit with which the check was made", v.repaired(1), c);
        }
    }

    private static void repairedCodabar() {
        String values = "0123456789-$:/.+ABCD";
        for (int value = 0; value < 16; value++) {
            BarcodeEngine x = new BarcodeEngine();
            Checks.print(x, 2, "A" + (value == 0 ? "1" : "0") + values.charAt((16 - value) % 16) + "A");
            Checks.print(x, 2, "A" + (value == 15 ? "." : "+") + values.charAt((16 - value) % 16) + "A");
            Checks.due("an inner place", x.repaired(2), values.charAt(value));
        }
        for (int value = 0; value < 16; value++) {
            BarcodeEngine x = new BarcodeEngine();
            Checks.print(x, 2, "A" + values.charAt(value) + "A");
            Checks.print(x, 2, "B" + values.charAt(value) + "A");
            // A to D have the values 16 to 19, so that the sum is 32 with the values 0, 15, 14, 13.
            int place = "0+./".indexOf(values.charAt(value));
            if (place >= 0) {
                Checks.due("the first place", x.repaired(2), "ABCD".charAt(place));
            } else {
                Checks.element("no letter", () -> x.repaired(2));
            }
            BarcodeEngine y = new BarcodeEngine();
            Checks.print(y, 2, "A" + values.charAt(value) + "C");
            Checks.print(y, 2, "A" + values.charAt(value) + "D");
            if (place >= 0) {
                Checks.due("the last place", y.repaired(2), "ABCD".charAt(place));
            } else {
                Checks.element("no letter", () -> y.repaired(2));
            }
        }
    }

    // Promise 36
    private static void winner() {
        BarcodeEngine x = new BarcodeEngine();
        Checks.due("no code", x.winner(), -1);
        Checks.print(x, 2, "A1B");
        Checks.due("Codabar", x.winner(), 2);
        Checks.print(x, 1, "12");
        Checks.due("of equal ones the lowest one", x.winner(), 1);
        // Not every code would do: a head of Interleaved 2 of 5 can be read from some of EAN-8.
        Checks.print(x, 0, "00000001");
        Checks.due("a wrong check", x.winner(), 1);
        x.setCheck(0, false);
        Checks.due("the check is off", x.winner(), 0);
        Checks.print(x, 0, "00000001");
        Checks.print(x, 0, "00000002");
        Checks.due("a share of 66", x.winner(), 1);
        Checks.print(x, 1, "12");
        Checks.print(x, 1, "12");
        Checks.print(x, 1, "13");
        Checks.due("a share of 75", x.winner(), 2);
        Checks.print(x, 2, "A1B");
        Checks.print(x, 2, "A1C");
        Checks.due("shares of 66, 75 and 66", x.winner(), 1);
        Checks.print(x, 1, "13");
        Checks.due("60 and 66", x.winner(), 0);
        x.setCheck(0, true);
        Checks.due("EAN-8 is not accepted", x.winner(), 2);
        x.setCheck(2, true);
        Checks.due("only Interleaved is", x.winner(), 1);
        x.setCheck(1, true);
        Checks.due("none is", x.winner(), -1);
        BarcodeEngine y = new BarcodeEngine();
        Checks.print(y, 1, "12");
        Checks.print(y, 1, "13");
        Checks.due("no majority", y.winner(), -1);
        winnerByRoundedShare();
    }

    private static void winnerByRoundedShare() {
        // 101 of 203 is 49.75, and 102 of 203 is 50.2; 101 of 152 is 66.4, 202 of 303 is 66.6.
        BarcodeEngine x = new BarcodeEngine();
        Checks.print(x, 1, "12");
        Checks.print(x, 1, "13");
        x.setWidth(1, 10, 20);
        Checks.due("51", x.weight(1, 1, '3'), 51);
        Checks.due("101 of 152", x.voted(1, 1), '2');
        for (int i = 0; i < 3; i++) {
            Checks.print(x, 2, i == 2 ? "A2B" : "A1B");
        }
        Checks.due("shares are rounded down to 66", x.winner(), 1);
        x.setWidth(1, 10, 19);
        Checks.due("101 of 157", x.winner(), 2);
        // One digit of confidence 0 has the weight 1: a share of 99.
        BarcodeEngine y = new BarcodeEngine();
        Checks.print(y, 0, "00000000");
        Checks.print(y, 2, "A1B");
        Checks.due("of equal ones the lowest one", y.winner(), 0);
        Checks.print(y, 0, "00000000");
        for (int i = 4; i < 8; i++) {
            y.setWidth(2, i, 10);
        }
        Checks.due("weight 1", y.weight(0, 0, '1'), 1);
        Checks.due("101 of 102", y.winner(), 2);
    }

    // Promise 37
    private static void worstScan() {
        BarcodeEngine x = new BarcodeEngine();
        Checks.element("no scan", () -> x.worstScan(1));
        Checks.print(x, 1, "123456");
        Checks.print(x, 1, "1234");
        Checks.print(x, 1, "1234");
        Checks.due("of the length of the symbology", x.worstScan(1), 1);
        Checks.print(x, 1, "1935");
        Checks.due("the most other characters", x.worstScan(1), 3);
        Checks.print(x, 1, "1845");
        Checks.due("places without a majority count for all", x.worstScan(1), 4);
        Checks.print(x, 1, "1234");
        Checks.print(x, 1, "1234");
        Checks.print(x, 1, "1845");
        Checks.same("the majorities", votes(x, 1), "1234");
        Checks.due("of several the lowest one", x.worstScan(1), 4);
        x.removeScan(4);
        Checks.due("the other one", x.worstScan(1), 6);
        Checks.head(x, "9999");
        Checks.due("a head is none", x.worstScan(1), 6);
        BarcodeEngine y = new BarcodeEngine();
        Checks.head(y, "1234");
        Checks.tail(y, "3456");
        Checks.due("length", y.length(1), 6);
        Checks.element("no whole code", () -> y.worstScan(1));
    }

    // Promise 38
    private static void setCheck() {
        BarcodeEngine x = new BarcodeEngine();
        Checks.due("on for EAN-8", x.setCheck(0, true), true);
        Checks.due("off for Interleaved", x.setCheck(1, false), false);
        Checks.due("off for Codabar", x.setCheck(2, true), false);
        Checks.due("still on", x.setCheck(0, false), true);
        Checks.due("off", x.setCheck(0, false), false);
        Checks.due("on", x.setCheck(2, false), true);
        Checks.due("off", x.setCheck(2, false), false);
        Checks.due("the others stay", x.setCheck(1, true), false);
        for (int s : NO_SYMBOLOGY) {
            Checks.index("setCheck", () -> x.setCheck(s, false) ? 1 : 0);
        }
        Checks.due("nothing is changed", x.setCheck(1, true), true);
        Checks.print(x, 0, "12345671");
        Checks.due("off", x.problem(0), 0);
        x.setCheck(0, true);
        Checks.due("on", x.problem(0), 3);
    }
}
