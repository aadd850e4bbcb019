/**
 * What one call leaves for the next ones: each change of a scan is read and voted anew, the buffer, the
 * pending widths, the scans and the checks do not touch one another, and nothing of what was there before
 * comes back.
 */
public final class KeptStateTest {
    private static final int NONE = BarcodeEngine.NONE;

    /** A change of scan 0. */
    private interface Change {
        void of(BarcodeEngine x);
    }

    public static void main(String[] args) {
        changesAreReadAnew();
        changesToAWholeCode();
        changesOfTheOtherScan();
        newScansVote();
        removedScansDoNot();
        roomOfARemovedScan();
        usedBytesDoNotComeBack();
        usedWidthsDoNotComeBack();
        bufferAndPendingWidthsAreApart();
        questionsChangeNothing();
        failedBeginningsLeaveNothing();
        Checks.end("KeptStateTest");
    }

    /** All that depends on the readings is asked for before the change and afterwards. */
    private static void changes(String what, Change change, String[] seen, int[] lengths, int winner) {
        BarcodeEngine x = new BarcodeEngine();
        Checks.print(x, 1, "1234");
        Checks.same("before", Checks.seen(x, 0, 1), "1234");
        for (int symbology = 0; symbology < 3; symbology++) {
            Checks.due("length before", x.length(symbology), symbology == 1 ? 4 : 0);
        }
        Checks.due("weight before", x.weight(1, 3, '4'), 101);
        Checks.due("winner before", x.winner(), 1);
        Checks.due("module before", x.module(0, 1), 1000);
        change.of(x);
        for (int symbology = 0; symbology < 3; symbology++) {
            Checks.same(what + ": seen", Checks.seen(x, 0, symbology), seen[symbology]);
            Checks.due(what + ": length", x.length(symbology), lengths[symbology]);
        }
        Checks.due(what + ": winner", x.winner(), winner);
    }

    private static void changesAreReadAnew() {
        String[] head = {"", "1234~", ""};
        String[] tail = {"", "~34", ""};
        String[] back = {"", "<1234", ""};
        String[] none = {"", "", ""};
        int[] four = {0, 4, 0};
        int[] no = {0, 0, 0};
        changes("setWidth", x -> x.setWidth(0, 28, 49), head, no, NONE);
        changes("cut", x -> x.cut(0, 0, 26), head, no, NONE);
        changes("cut", x -> x.cut(0, 14, 28), tail, no, NONE);
        changes("reverse", x -> x.reverse(0), back, four, 1);
        changes("smear", x -> x.smear(0, 100), none, no, NONE);
        changes("average", x -> {
            int other = Checks.print(x, 2, "A12B");
            x.cut(other, 0, 28);
            x.average(0, other);
        }, none, new int[] {0, 0, 0}, NONE);
        changes("removeScan", x -> {
            x.removeScan(0);
            Checks.scan(x, 1, 1, 1);
        }, none, no, NONE);
        changes("print over it", x -> {
            x.removeScan(0);
            Checks.print(x, 2, "A1B");
        }, new String[] {"", "", "A1B"}, new int[] {0, 0, 3}, 2);
    }

    // The same the other way round: a change makes a code of what was none.
    private static void changesToAWholeCode() {
        Change[] makes = {x -> x.setWidth(0, 0, 50), x -> x.cut(0, 0, 18), x -> x.smear(0, -7), x -> x.average(0, 1)};
        Change[] before = {x -> x.setWidth(0, 0, 1), x -> x.scanCount(), x -> x.smear(0, 7), x -> x.setWidth(0, 0, 1)};
        String[] rows = {"q 1111 3113111133 311 q", "q 1111 3113111133 311 q 1 1", "q 1111 3113111133 311 q",
            "q 1111 3113111133 311 q"};
        for (int i = 0; i < 4; i++) {
            BarcodeEngine x = new BarcodeEngine();
            Checks.scan(x, rows[i], 10);
            Checks.scan(x, "q 1111 3113111133 311 q", 10);
            before[i].of(x);
            Checks.due("change " + i + ": a code before", x.read(0, 1), i == 1 ? 2 : 0);
            Checks.due("change " + i + ": votes before", x.weight(1, 0, '1') >= 101, true);
            makes[i].of(x);
            Checks.same("change " + i, Checks.seen(x, 0, 1), "12");
            Checks.due("change " + i + ": weight", x.weight(1, 0, '1'), 202);
        }
    }

    // "number of the scan that changes": the votes of all scans are counted anew, the other scans stay.
    private static void changesOfTheOtherScan() {
        BarcodeEngine x = new BarcodeEngine();
        Checks.print(x, 1, "1234");
        Checks.print(x, 1, "1234");
        Checks.due("two votes", x.weight(1, 0, '1'), 202);
        Checks.due("both agree", x.agreement(0, 1, 1), 4);
        x.setWidth(1, 0, 1);
        Checks.due("a tail now", x.weight(1, 0, '1'), 202);
        Checks.due("no whole code", x.agreement(0, 1, 1), NONE);
        x.setWidth(1, 28, 1);
        Checks.due("nothing now", x.weight(1, 0, '1'), 101);
        Checks.same("the other one stays", Checks.seen(x, 0, 1), "1234");
        x.average(0, 1);
        Checks.due("a quiet zone of 51", x.width(0, 0), 51);
        Checks.same("still a code", Checks.seen(x, 0, 1), "1234");
        x.average(0, 1);
        Checks.due("none of 26", x.width(0, 0), 26);
        Checks.same("no code", Checks.seen(x, 0, 1), "");
        Checks.due("no length", x.length(1), 0);
    }

    private static void newScansVote() {
        BarcodeEngine x = new BarcodeEngine();
        for (int symbology = 0; symbology < 3; symbology++) {
            Checks.due("no length", x.length(symbology), 0);
        }
        Checks.due("no winner", x.winner(), NONE);
        Checks.print(x, 1, "1234");
        Checks.due("a printed scan", x.length(1), 4);
        Checks.due("a printed scan", x.winner(), 1);
        Checks.scan(x, "q 1111 3113111133 311 q", 10);
        Checks.due("of equal supports the least length", x.length(1), 2);
        Checks.due("a scan of widths", x.weight(1, 0, '1'), 101);
    }

    private static void removedScansDoNot() {
        BarcodeEngine x = new BarcodeEngine();
        Checks.print(x, 1, "1234");
        Checks.print(x, 1, "5678");
        Checks.due("two votes", x.weight(1, 0, NONE), 202);
        Checks.due("no majority", x.problem(1), 2);
        x.removeScan(1);
        Checks.due("one vote", x.weight(1, 0, NONE), 101);
        Checks.due("accepted", x.problem(1), 0);
        x.removeScan(0);
        Checks.due("no votes", x.problem(1), 1);
        Checks.index("no votes", () -> x.weight(1, 0, NONE));
        Checks.due("no winner", x.winner(), NONE);
    }

    // A shorter scan in the place of a longer one, and the other way round.
    private static void roomOfARemovedScan() {
        BarcodeEngine x = new BarcodeEngine();
        Checks.print(x, 2, "A12345678901234B");
        x.removeScan(0);
        Checks.due("3 widths", Checks.scan(x, 7, 8, 9), 0);
        Checks.due("3 widths", x.widthCount(0), 3);
        Checks.index("none of the removed ones", () -> x.width(0, 3));
        Checks.same("nothing is read", Checks.seen(x, 0, 2), "");
        x.removeScan(0);
        Checks.print(x, 1, "12");
        Checks.due("19 widths", x.widthCount(0), 19);
        Checks.same("12", Checks.seen(x, 0, 1), "12");
        Checks.same("no Codabar", Checks.seen(x, 0, 2), "");
        x.cut(0, 0, 2);
        Checks.index("none of those cut off", () -> x.width(0, 3));
        Checks.index("none of those cut off", () -> x.cut(0, 0, 4));
    }

    // "The buffer is empty afterwards": its bytes are not there any more, for no call.
    private static void usedBytesDoNotComeBack() {
        BarcodeEngine x = new BarcodeEngine();
        Checks.put(x, "12345678901234");
        Checks.due("a check character", x.checkCharacter(0, 7), '0');
        Checks.due("print", x.print(1, 2, 10, 0, 0), 0);
        Checks.argument("EAN-8", () -> x.checkCharacter(0, 7));
        Checks.argument("Interleaved", () -> x.checkCharacter(1, 3));
        Checks.argument("Interleaved", () -> x.checkCharacter(1, 13));
        Checks.argument("print", () -> x.print(0, 8, 10, 0, 0));
        Checks.argument("print", () -> x.print(1, 2, 10, 0, 0));
        Checks.put(x, "A12B");
        Checks.due("new bytes", x.print(2, 4, 10, 0, 0), 1);
        Checks.same("new bytes", Checks.whole(x, 1, 2), "A12B");
        Checks.argument("Codabar", () -> x.checkCharacter(2, 4));
        Checks.argument("Codabar", () -> x.print(2, 4, 10, 0, 0));
    }

    private static void usedWidthsDoNotComeBack() {
        BarcodeEngine x = new BarcodeEngine();
        x.addWidths(1, 2, 3, 4, 5, 0);
        x.endScan();
        Checks.state("no pending widths", () -> x.endScan());
        x.addWidths(6, 0, 0, 0, 0, 0);
        Checks.state("one pending width", () -> x.endScan());
        x.addWidths(7, 8, 0, 0, 0, 0);
        Checks.due("three of them", x.endScan(), 1);
        Checks.same("three of them", Checks.widths(x, 1), "6 7 8");
        Checks.same("the first scan", Checks.widths(x, 0), "1 2 3 4 5");
        x.setWidth(0, 0, 99);
        x.addWidths(1, 1, 1, 0, 0, 0);
        x.endScan();
        Checks.same("the pending ones are others", Checks.widths(x, 2), "1 1 1");
        Checks.same("the first scan", Checks.widths(x, 0), "99 2 3 4 5");
    }

    private static void bufferAndPendingWidthsAreApart() {
        BarcodeEngine x = new BarcodeEngine();
        x.addWidths(5, 6, 7, 0, 0, 0);
        Checks.put(x, "12");
        x.setCheck(1, true);
        Checks.due("print leaves pending widths", x.print(1, 2, 10, 0, 0), 0);
        Checks.put(x, "3456");
        Checks.due("they are there", x.addWidths(8, 9, 0, 0, 0, 0), 5);
        Checks.due("endScan leaves the buffer", x.endScan(), 1);
        Checks.same("the widths", Checks.widths(x, 1), "5 6 7 8 9");
        x.addWidths(1, 2, 3, 0, 0, 0);
        Checks.due("removeScan leaves both", x.removeScan(0), 1);
        Checks.due("pending widths", x.addWidths(0, 0, 0, 0, 0, 0), 3);
        Checks.due("bytes", x.append(0, 0, 0, 0, 0), 40);
        Checks.due("bytes", x.print(1, 4, 10, 0, 0), 1);
        Checks.same("bytes", Checks.whole(x, 1, 1), "3456");
        Checks.due("the check stays on", x.setCheck(1, true), true);
        Checks.due("pending widths", x.endScan(), 2);
    }

    // "The buffer is not changed." And no question changes what the next one answers.
    private static void questionsChangeNothing() {
        BarcodeEngine x = new BarcodeEngine();
        Checks.print(x, 0, "12345670");
        Checks.print(x, 0, "12349670");
        Checks.put(x, "A12B");
        for (int round = 0; round < 3; round++) {
            Checks.due("repaired", x.repaired(0), '5');
            Checks.due("check character", x.checkCharacter(2, 4), ':');
            Checks.due("problem", x.problem(0), 2);
            Checks.due("voted", x.voted(0, 4), NONE);
            Checks.due("doubtful", x.doubtful(0), 4);
            Checks.due("winner", x.winner(), NONE);
            Checks.due("module", x.module(round % 2, 0), 1000);
            Checks.due("character", x.character(0, 0, 4), '5');
            Checks.due("bestScan", x.bestScan(0), 0);
            Checks.due("worstScan", x.worstScan(0), 0);
            Checks.due("runnerUp", x.runnerUp(0, 4), '9');
        }
    }

    // What was read from a beginning that is none of a whole code does not count.
    private static void failedBeginningsLeaveNothing() {
        String ean = "111 2221 2122 1411 1132 11111 1231 1114 1312 3211 111";
        Checks.sees(0, "q 111 2221 2122 q" + ean + "q", "12345670");
        Checks.sees(0, "q 111 2221 q" + ean + "q", "12345670");
        Checks.sees(0, "q 111 2221 2122 1411 1132 11111 1231 1 q" + ean + "q", "12345670");
        Checks.sees(1, "q 1111 3113111133 1 q 1111 1131311313 311 q", "67");
        Checks.sees(1, "q 1111 3113111133 3113111133 1 q 1111 1131311313 1131311313 311 q", "6767");
        Checks.sees(2, "q 1133131 1 1111331 q 1113133 1 1113113 1 1113331 q", "C2D");
        Checks.sees(2, "q 1133131 1 1111331 1 1111331 4 1 q 1113133 1 1113113 1 1113331 q", "C2D");
        // Nor what was read as it is, when a whole code is read in reverse.
        Checks.sees(1, "q 1111 3113111133 1 q" + Checks.backwards("1111 1131311313 311") + "q", "<67");
        Checks.sees(0, "q 111 2221 2122 1411 q" + Checks.backwards(ean) + "q", "<12345670");
    }
}
