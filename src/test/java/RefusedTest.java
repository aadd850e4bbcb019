import java.util.NoSuchElementException;

/**
 * Section 6, and what each promise says after "Throws": a refused call throws the exception that the
 * document names, of several the one named first, and changes nothing. Two engines have the same
 * past; one of them is asked for what is refused, and then both must answer alike.
 */
public final class RefusedTest {
    private static final int LEAST = Integer.MIN_VALUE;
    private static final int MOST = Integer.MAX_VALUE;
    private static final int[] NO_SYMBOLOGY = {-1, 3, LEAST, MOST};
    // Of some(), which has 7 scans; the first one has 45 widths, and a code of 8 characters.
    private static final int[] NO_SCAN = {-1, 7, 24, LEAST, MOST};
    private static final int[] NO_WIDTH = {-1, 45, 129, LEAST, MOST};
    private static final int[] NO_PLACE = {-1, 8, 16, LEAST, MOST};
    private static final Class<?> INDEX = IndexOutOfBoundsException.class;
    private static final Class<?> ARGUMENT = IllegalArgumentException.class;
    private static final Class<?> STATE = IllegalStateException.class;
    private static final Class<?> ELEMENT = NoSuchElementException.class;
    private static final int MOST_CALLS = 512;

    private static int calls;

    /** What happens to an engine. */
    private interface Deed {
        void with(BarcodeEngine x);
    }

    public static void main(String[] args) {
        append();
        printIndex();
        printArgument();
        printNoCode();
        printState();
        checkCharacterIndex();
        checkCharacterArgument();
        addWidthsArgument();
        addWidthsState();
        endScan();
        scansThatDoNotExist();
        widthsThatDoNotExist();
        setWidthArgument();
        cutIndex();
        cutArgument();
        smearArgument();
        averageIndex();
        averageArgument();
        readingsThatDoNotExist();
        pairsThatDoNotExist();
        placesThatDoNotExist();
        moduleAndSpreadElement();
        bestScanAndWorstScan();
        votesThatDoNotExist();
        placesOfVotesThatDoNotExist();
        repairedState();
        repairedElement();
        Checks.end("RefusedTest");
    }

    // ---- pasts

    private static void nothing(BarcodeEngine x) {
        x.scanCount();
    }

    /** Seven scans, 40 bytes that begin with A12B, four pending widths, and other checks than at first. */
    private static void some(BarcodeEngine x) {
        Checks.print(x, 0, "12345670");
        Checks.print(x, 0, "12345671");
        Checks.head(x, "123456");
        Checks.tail(x, "3456");
        Checks.print(x, 2, "A1B");
        x.reverse(Checks.print(x, 2, "A1C"));
        Checks.scan(x, 7, 8, 9);
        Checks.put(x, "A12B");
        Checks.put(x, "345");
        x.addWidths(5, 6, 7, 8, 0, 0);
        x.setCheck(0, false);
        x.setCheck(1, true);
    }

    /** 24 scans, 60 bytes that begin with 12345670, and 129 pending widths. */
    private static void full(BarcodeEngine x) {
        for (int i = 0; i < 24; i++) {
            Checks.scan(x, 1 + i, 2, 3);
        }
        Checks.put(x, "12345670");
        Checks.put(x, "0000");
        Checks.put(x, "0000");
        pending(x, 129);
    }

    private static void digits(BarcodeEngine x) {
        Checks.put(x, "12345678901234567890");
    }

    private static void pending(BarcodeEngine x, int count) {
        for (int i = 0; i < count; i += 6) {
            int[] six = new int[6];
            for (int k = 0; k < 6 && i + k < count; k++) {
                six[k] = 1 + (i + k) % 100;
            }
            x.addWidths(six[0], six[1], six[2], six[3], six[4], six[5]);
        }
    }

    // ---- what an engine answers

    private static long note(StringBuilder notes, Checks.Call call) {
        calls++;
        try {
            long answer = call.answer();
            notes.append(answer).append(' ');
            return answer;
        } catch (RuntimeException e) {
            notes.append(e.getClass().getSimpleName()).append(' ');
            return Long.MIN_VALUE;
        }
    }

    /** All that can be seen without a change. */
    private static void look(BarcodeEngine x, StringBuilder notes) {
        long scans = note(notes, () -> x.scanCount());
        for (int i = 0; i < scans; i++) {
            lookAtWidths(x, i, notes);
        }
        for (int i = 0; i < 3; i++) {
            int s = i;
            notes.append("symbology ").append(s).append(": ");
            for (int k = 0; k < scans && k < 6; k++) {
                int scan = k;
                note(notes, () -> x.read(scan, s));
                note(notes, () -> x.readPart(scan, s, false));
                note(notes, () -> x.readPart(scan, s, true));
                note(notes, () -> x.isReversed(scan, s) ? 1 : 0);
            }
            long length = note(notes, () -> x.length(s));
            for (int k = 0; k < length; k++) {
                int place = k;
                note(notes, () -> x.voted(s, place));
            }
            note(notes, () -> x.problem(s));
        }
        note(notes, () -> x.winner());
    }

    private static void lookAtWidths(BarcodeEngine x, int scan, StringBuilder notes) {
        long count = note(notes, () -> x.widthCount(scan));
        for (int i = 0; i < count; i++) {
            int index = i;
            note(notes, () -> x.width(scan, index));
        }
    }

    /** The checks, the pending widths and the bytes, as far as they can be seen by using them up. */
    private static void empty(BarcodeEngine x, StringBuilder notes) {
        for (int i = 0; i < 3; i++) {
            int s = i;
            note(notes, () -> x.setCheck(s, false) ? 1 : 0);
        }
        if (x.scanCount() > 22) {
            x.removeScan(0);
            x.removeScan(0);
        }
        long pending = note(notes, () -> x.addWidths(0, 0, 0, 0, 0, 0));
        if (pending % 2 == 0) {
            note(notes, () -> x.addWidths(77, 0, 0, 0, 0, 0));
        }
        long scan = note(notes, () -> x.endScan());
        if (scan >= 0) {
            lookAtWidths(x, (int) scan, notes);
        }
        for (int i = 0; i < 3; i++) {
            int s = i;
            for (int k = 0; k <= 16; k++) {
                int length = k;
                if (s == 2 || length % 2 == 1) {
                    note(notes, () -> x.checkCharacter(s, length));
                }
            }
        }
        note(notes, () -> x.append(0, 0, 0, 0, 0));
        useBytes(x, notes);
    }

    private static void useBytes(BarcodeEngine x, StringBuilder notes) {
        for (int i = 2; i >= 0; i--) {
            int s = i;
            for (int k = 16; k >= 2; k--) {
                int length = k;
                long scan = s == 2 || length % 2 == 0 ? note(notes, () -> x.print(s, length, 4, 0, 0)) : -1;
                if (scan >= 0) {
                    lookAtWidths(x, (int) scan, notes);
                    return;
                }
            }
        }
    }

    private static String afterwards(BarcodeEngine x) {
        StringBuilder notes = new StringBuilder();
        look(x, notes);
        empty(x, notes);
        return notes.toString();
    }

    private static void refuses(String what, Class<?> want, Deed past, Deed call) {
        BarcodeEngine asked = new BarcodeEngine();
        BarcodeEngine spared = new BarcodeEngine();
        past.with(asked);
        past.with(spared);
        // What is kept of readings and votes is to be right afterwards, too.
        asked.winner();
        spared.winner();
        Class<?> got = null;
        try {
            call.with(asked);
        } catch (RuntimeException e) {
            got = e.getClass();
        }
        Checks.same(what + " throws", String.valueOf(got), String.valueOf(want));
        calls = 0;
        Checks.same(what + ", and afterwards", afterwards(asked), afterwards(spared));
        // The past has up to 80 calls.
        Checks.due("calls of one engine are few: " + calls / 2, calls / 2 < MOST_CALLS - 90, true);
    }

    // ---- scans

    // "Throws IllegalStateException if the length would exceed 60"
    private static void append() {
        refuses("append to 60", STATE, RefusedTest::full, x -> x.append(1, 2, 3, 4, 5));
        refuses("append to 60", STATE, x -> {
            for (int i = 0; i < 3; i++) {
                Checks.put(x, "A1B");
            }
        }, x -> x.append(-1, LEAST, MOST, 0, 0));
    }

    // "Throws IndexOutOfBoundsException if the symbology does not exist"
    private static void printIndex() {
        for (int symbology : NO_SYMBOLOGY) {
            refuses("print " + symbology, INDEX, RefusedTest::some, x -> x.print(symbology, 4, 10, 0, 0));
            refuses("print of nothing", INDEX, RefusedTest::nothing, x -> x.print(symbology, 0, 10, 0, 0));
            refuses("and bad arguments", INDEX, RefusedTest::some, x -> x.print(symbology, -1, 3, 4, 0));
            refuses("and 24 scans", INDEX, RefusedTest::full, x -> x.print(symbology, 8, 10, 0, 0));
            refuses("and all", INDEX, RefusedTest::full, x -> x.print(symbology, 61, 41, -4, 1));
        }
    }

    // "Throws IllegalArgumentException if length is not 0 to the length of the buffer, module or spread
    // is out of range, ..."
    private static void printArgument() {
        for (int length : new int[] {-1, 41, 60, 61, LEAST, MOST}) {
            refuses("print of " + length, ARGUMENT, RefusedTest::some, x -> x.print(2, length, 10, 0, 0));
        }
        refuses("print of 1 of 0", ARGUMENT, RefusedTest::nothing, x -> x.print(1, 1, 10, 0, 0));
        refuses("print of 61", ARGUMENT, RefusedTest::full, x -> x.print(0, 61, 10, 0, 0));
        for (int module : new int[] {3, 41, 0, -4, -40, LEAST, MOST}) {
            refuses("module " + module, ARGUMENT, RefusedTest::some, x -> x.print(2, 4, module, 0, 0));
        }
        for (int spread : new int[] {-4, 4, LEAST, MOST}) {
            refuses("spread " + spread, ARGUMENT, RefusedTest::some, x -> x.print(2, 4, 10, spread, 0));
        }
        refuses("module and 24 scans", ARGUMENT, RefusedTest::full, x -> x.print(0, 8, 3, 0, 0));
        refuses("spread and 24 scans", ARGUMENT, RefusedTest::full, x -> x.print(0, 8, 10, 4, 0));
        refuses("length and 24 scans", ARGUMENT, RefusedTest::full, x -> x.print(0, -1, 10, 0, 0));
        refuses("no code and 24 scans", ARGUMENT, RefusedTest::full, x -> x.print(0, 7, 10, 0, 0));
    }

    // "... or the bytes are no code of the symbology"
    private static void printNoCode() {
        for (int count = 0; count <= 20; count++) {
            int length = count;
            if (length != 8) {
                refuses("EAN-8 of " + length, ARGUMENT, RefusedTest::digits, x -> x.print(0, length, 10, 0, 0));
            }
            if (length < 2 || length > 14 || length % 2 == 1) {
                refuses("Interleaved of " + length, ARGUMENT, RefusedTest::digits, x -> x.print(1, length, 10, 0, 0));
            }
            refuses("Codabar of " + length, ARGUMENT, RefusedTest::digits, x -> x.print(2, length, 10, 0, 0));
            refuses("EAN-8 of " + length, ARGUMENT, RefusedTest::some, x -> x.print(0, length, 10, 0, 0));
            if (length != 4) {
                refuses("Codabar of " + length, ARGUMENT, RefusedTest::some, x -> x.print(2, length, 10, 0, 0));
            }
        }
        refuses("no bytes", ARGUMENT, RefusedTest::nothing, x -> x.print(2, 0, 10, 0, 0));
    }

    // "Throws IllegalStateException if there are already 24 scans"
    private static void printState() {
        refuses("a 25th scan", STATE, RefusedTest::full, x -> x.print(0, 8, 10, 0, 0));
        refuses("a 25th scan", STATE, RefusedTest::full, x -> x.print(1, 8, 40, 3, MOST));
        refuses("a 25th scan", STATE, RefusedTest::full, x -> x.print(1, 2, 4, -3, LEAST));
    }

    private static void checkCharacterIndex() {
        for (int symbology : NO_SYMBOLOGY) {
            refuses("check " + symbology, INDEX, RefusedTest::some, x -> x.checkCharacter(symbology, 4));
            refuses("check of nothing", INDEX, RefusedTest::nothing, x -> x.checkCharacter(symbology, 0));
            refuses("and length", INDEX, RefusedTest::some, x -> x.checkCharacter(symbology, -1));
            refuses("and length", INDEX, RefusedTest::full, x -> x.checkCharacter(symbology, 61));
        }
    }

    // "Throws IllegalArgumentException if length is not 0 to the length of the buffer, or the bytes are
    // not as described"
    private static void checkCharacterArgument() {
        for (int s = 0; s < 3; s++) {
            int symbology = s;
            for (int length : new int[] {-1, 41, 60, 61, LEAST, MOST}) {
                refuses("check of " + length, ARGUMENT, RefusedTest::some, x -> x.checkCharacter(symbology, length));
            }
            refuses("check of nothing", ARGUMENT, RefusedTest::nothing, x -> x.checkCharacter(symbology, 0));
            refuses("more than there is", ARGUMENT, RefusedTest::nothing, x -> x.checkCharacter(symbology, 1));
        }
        for (int count = 0; count <= 20; count++) {
            int length = count;
            if (length != 7) {
                refuses("EAN-8 of " + length, ARGUMENT, RefusedTest::digits, x -> x.checkCharacter(0, length));
            }
            if (length > 13 || length % 2 == 0) {
                refuses("Interleaved of " + length, ARGUMENT, RefusedTest::digits, x -> x.checkCharacter(1, length));
            }
            refuses("Codabar of " + length, ARGUMENT, RefusedTest::digits, x -> x.checkCharacter(2, length));
            refuses("Interleaved of " + length, ARGUMENT, RefusedTest::some, x -> x.checkCharacter(1, length));
            if (length != 4) {
                refuses("Codabar of " + length, ARGUMENT, RefusedTest::some, x -> x.checkCharacter(2, length));
            }
        }
    }

    // "Throws IllegalArgumentException if an argument is out of range"
    private static void addWidthsArgument() {
        Deed[] pasts = {RefusedTest::nothing, RefusedTest::some, RefusedTest::full};
        for (int bad : new int[] {-1, 10001, LEAST, MOST}) {
            for (int i = 0; i < 6; i++) {
                for (int other = 0; other < 2; other++) {
                    int[] w = {other, other, other, other, other, other};
                    w[i] = bad;
                    // With other 0 it stands behind the first 0, but for the first one.
                    refuses(bad + " as width " + i, ARGUMENT, pasts[(i + other) % 3],
                        x -> x.addWidths(w[0], w[1], w[2], w[3], w[4], w[5]));
                }
            }
        }
        refuses("argument before state", ARGUMENT, RefusedTest::full, x -> x.addWidths(1, 1, 1, 1, 1, -1));
        refuses("argument before state", ARGUMENT, RefusedTest::full, x -> x.addWidths(10001, 1, 1, 1, 1, 1));
    }

    // "Throws IllegalStateException if there would be more than 129 pending widths"
    private static void addWidthsState() {
        for (int add = 1; add <= 6; add++) {
            int[] w = new int[6];
            for (int i = 0; i < add; i++) {
                w[i] = 10000;
            }
            int before = 130 - add;
            refuses(add + " to " + before, STATE, x -> pending(x, before),
                x -> x.addWidths(w[0], w[1], w[2], w[3], w[4], w[5]));
            refuses(add + " to 129", STATE, RefusedTest::full, x -> x.addWidths(w[0], w[1], w[2], w[3], w[4], w[5]));
            BarcodeEngine x = new BarcodeEngine();
            pending(x, before - 1);
            Checks.due(add + " to " + (before - 1), x.addWidths(w[0], w[1], w[2], w[3], w[4], w[5]), 129);
        }
    }

    // "Throws IllegalStateException if the number of pending widths is less than 3 or even, or there are
    // already 24 scans"
    private static void endScan() {
        for (int count : new int[] {0, 1, 2, 4, 6, 64, 126, 128}) {
            refuses("endScan of " + count, STATE, x -> pending(x, count), x -> x.endScan());
        }
        refuses("endScan of 4", STATE, RefusedTest::some, x -> x.endScan());
        refuses("a 25th scan", STATE, RefusedTest::full, x -> x.endScan());
        refuses("a 25th scan", STATE, x -> {
            for (int i = 0; i < 24; i++) {
                Checks.scan(x, 1, 2, 3);
            }
            pending(x, 3);
        }, x -> x.endScan());
    }

    /** A call of a scan that does not exist: in an empty, a used and a full engine. */
    private static void noScan(String what, ScanDeed call) {
        for (int scan : NO_SCAN) {
            refuses(what + " of " + scan, INDEX, RefusedTest::some, x -> call.with(x, scan));
        }
        refuses(what + " of 0", INDEX, RefusedTest::nothing, x -> call.with(x, 0));
        refuses(what + " of -1", INDEX, RefusedTest::nothing, x -> call.with(x, -1));
        refuses(what + " of 24", INDEX, RefusedTest::full, x -> call.with(x, 24));
        refuses(what + " of -1", INDEX, RefusedTest::full, x -> call.with(x, -1));
    }

    private interface ScanDeed {
        void with(BarcodeEngine x, int number);
    }

    // "An IndexOutOfBoundsException is thrown if a scan ... does not exist"
    private static void scansThatDoNotExist() {
        noScan("widthCount", (x, scan) -> x.widthCount(scan));
        noScan("width", (x, scan) -> x.width(scan, 0));
        noScan("width, both", (x, scan) -> x.width(scan, -1));
        noScan("setWidth", (x, scan) -> x.setWidth(scan, 0, 5));
        noScan("setWidth, and argument", (x, scan) -> x.setWidth(scan, 0, 0));
        noScan("cut", (x, scan) -> x.cut(scan, 0, 2));
        noScan("cut, and argument", (x, scan) -> x.cut(scan, 1, 1));
        noScan("reverse", (x, scan) -> x.reverse(scan));
        noScan("smear", (x, scan) -> x.smear(scan, 1));
        noScan("smear, and argument", (x, scan) -> x.smear(scan, 101));
        noScan("average", (x, scan) -> x.average(scan, 0));
        noScan("average", (x, scan) -> x.average(0, scan));
        noScan("average", (x, scan) -> x.average(scan, scan));
        noScan("removeScan", (x, scan) -> x.removeScan(scan));
    }

    private static void widthsThatDoNotExist() {
        for (int index : NO_WIDTH) {
            refuses("width " + index, INDEX, RefusedTest::some, x -> x.width(0, index));
            refuses("setWidth " + index, INDEX, RefusedTest::some, x -> x.setWidth(0, index, 5));
            refuses("setWidth, and argument", INDEX, RefusedTest::some, x -> x.setWidth(0, index, 0));
            refuses("setWidth, and argument", INDEX, RefusedTest::some, x -> x.setWidth(0, index, 10001));
        }
        for (int index : new int[] {-1, 3}) {
            refuses("width " + index + " of 3", INDEX, RefusedTest::full, x -> x.width(23, index));
            refuses("setWidth " + index + " of 3", INDEX, RefusedTest::full, x -> x.setWidth(23, index, 5));
        }
    }

    // "Throws IllegalArgumentException if width is out of range"
    private static void setWidthArgument() {
        for (int width : new int[] {0, -1, 10001, LEAST, MOST}) {
            refuses("setWidth to " + width, ARGUMENT, RefusedTest::some, x -> x.setWidth(0, 0, width));
            refuses("setWidth to " + width, ARGUMENT, RefusedTest::some, x -> x.setWidth(0, 44, width));
            refuses("setWidth to " + width, ARGUMENT, RefusedTest::full, x -> x.setWidth(23, 2, width));
        }
    }

    // "Throws IndexOutOfBoundsException if the scan, or the width from or to, does not exist"
    private static void cutIndex() {
        for (int index : new int[] {-1, -2, 45, 46, 128, 130, LEAST, LEAST + 1, MOST, MOST - 1}) {
            refuses("cut from " + index, INDEX, RefusedTest::some, x -> x.cut(0, index, 44));
            refuses("cut to " + index, INDEX, RefusedTest::some, x -> x.cut(0, 0, index));
            refuses("cut to " + index + " from an odd one", INDEX, RefusedTest::some, x -> x.cut(0, 1, index));
            refuses("cut from " + index + " to an odd one", INDEX, RefusedTest::some, x -> x.cut(0, index, 43));
            refuses("cut from and to " + index, INDEX, RefusedTest::some, x -> x.cut(0, index, index));
        }
        refuses("cut from 3 of 3", INDEX, RefusedTest::full, x -> x.cut(0, 3, 2));
        refuses("cut to 4 of 3", INDEX, RefusedTest::full, x -> x.cut(0, 0, 4));
    }

    // "Throws IllegalArgumentException if from or to is odd, or to is less than from + 2"
    private static void cutArgument() {
        int[][] bad = {{1, 44}, {43, 44}, {0, 43}, {0, 1}, {1, 43}, {41, 43}, {0, 0}, {2, 0}, {44, 44}, {44, 42}, {44, 0},
            {42, 42}, {1, 1}, {1, 0}, {1, 2}, {43, 1}};
        for (int[] two : bad) {
            refuses("cut " + two[0] + ", " + two[1], ARGUMENT, RefusedTest::some, x -> x.cut(0, two[0], two[1]));
        }
        for (int[] two : new int[][] {{0, 0}, {2, 2}, {2, 0}, {1, 2}, {0, 1}}) {
            refuses("cut " + two[0] + ", " + two[1] + " of 3", ARGUMENT, RefusedTest::full,
                x -> x.cut(5, two[0], two[1]));
        }
    }

    // "Throws IllegalArgumentException if amount is out of range"
    private static void smearArgument() {
        for (int amount : new int[] {-101, 101, LEAST, MOST}) {
            refuses("smear by " + amount, ARGUMENT, RefusedTest::some, x -> x.smear(0, amount));
            refuses("smear by " + amount, ARGUMENT, RefusedTest::full, x -> x.smear(23, amount));
        }
    }

    private static void averageIndex() {
        for (int scan : NO_SCAN) {
            refuses("average, the first one", INDEX, RefusedTest::some, x -> x.average(scan, 6));
            refuses("average, the other one", INDEX, RefusedTest::some, x -> x.average(6, scan));
        }
    }

    // "Throws IllegalArgumentException if they have different numbers of widths"
    private static void averageArgument() {
        for (int[] two : new int[][] {{0, 6}, {6, 0}, {0, 2}, {2, 3}, {3, 2}, {4, 0}}) {
            refuses("average " + two[0] + ", " + two[1], ARGUMENT, RefusedTest::some,
                x -> x.average(two[0], two[1]));
        }
    }

    // ---- readings

    /** A call of a scan and a symbology, of which one or both do not exist. */
    private static void noReading(String what, ReadingDeed call) {
        for (int scan : NO_SCAN) {
            refuses(what + " of " + scan + ", 0", INDEX, RefusedTest::some, x -> call.with(x, scan, 0));
        }
        for (int symbology : NO_SYMBOLOGY) {
            refuses(what + " of 0, " + symbology, INDEX, RefusedTest::some, x -> call.with(x, 0, symbology));
        }
        refuses(what + " of 7, 3", INDEX, RefusedTest::some, x -> call.with(x, 7, 3));
        refuses(what + " of 0, 0", INDEX, RefusedTest::nothing, x -> call.with(x, 0, 0));
        refuses(what + " of 24, 2", INDEX, RefusedTest::full, x -> call.with(x, 24, 2));
        refuses(what + " of 23, 3", INDEX, RefusedTest::full, x -> call.with(x, 23, 3));
    }

    private interface ReadingDeed {
        void with(BarcodeEngine x, int scan, int symbology);
    }

    private static void readingsThatDoNotExist() {
        noReading("read", (x, scan, s) -> x.read(scan, s));
        noReading("readPart", (x, scan, s) -> x.readPart(scan, s, false));
        noReading("readPart", (x, scan, s) -> x.readPart(scan, s, true));
        noReading("character", (x, scan, s) -> x.character(scan, s, 0));
        noReading("confidence", (x, scan, s) -> x.confidence(scan, s, 0));
        noReading("partCharacter", (x, scan, s) -> x.partCharacter(scan, s, false, 0));
        noReading("isReversed", (x, scan, s) -> x.isReversed(scan, s));
        // There is no whole code in the last scan, but that is named second.
        noReading("module", (x, scan, s) -> x.module(scan == 0 && s != 0 ? 6 : scan, s));
        noReading("spread", (x, scan, s) -> x.spread(scan == 0 && s != 0 ? 6 : scan, s));
    }

    private static void pairsThatDoNotExist() {
        noReading("agreement", (x, scan, s) -> x.agreement(scan, 0, s));
        noReading("agreement", (x, scan, s) -> x.agreement(0, scan, s));
        noReading("overlap", (x, scan, s) -> x.overlap(scan, 3, s));
        noReading("overlap", (x, scan, s) -> x.overlap(2, scan, s));
        noReading("mergedLength", (x, scan, s) -> x.mergedLength(scan, 3, s));
        noReading("mergedLength", (x, scan, s) -> x.mergedLength(2, scan, s));
        noReading("mergedCharacter", (x, scan, s) -> x.mergedCharacter(scan, 3, s, 0));
        noReading("mergedCharacter", (x, scan, s) -> x.mergedCharacter(2, scan, s, 0));
    }

    // "... if the scan, the symbology or the place does not exist"
    private static void placesThatDoNotExist() {
        for (int place : NO_PLACE) {
            refuses("character " + place, INDEX, RefusedTest::some, x -> x.character(0, 0, place));
            refuses("confidence " + place, INDEX, RefusedTest::some, x -> x.confidence(0, 0, place));
            refuses("partCharacter " + place, INDEX, RefusedTest::some, x -> x.partCharacter(2, 1, false, place));
            refuses("mergedCharacter " + place, INDEX, RefusedTest::some, x -> x.mergedCharacter(2, 3, 1, place));
        }
        refuses("character 3 of 3", INDEX, RefusedTest::some, x -> x.character(4, 2, 3));
        refuses("confidence 3 of 3", INDEX, RefusedTest::some, x -> x.confidence(5, 2, 3));
        refuses("partCharacter 6 of 6", INDEX, RefusedTest::some, x -> x.partCharacter(2, 1, false, 6));
        refuses("partCharacter 4 of 4", INDEX, RefusedTest::some, x -> x.partCharacter(3, 1, true, 4));
        refuses("mergedCharacter 6 of 6", INDEX, RefusedTest::some, x -> x.mergedCharacter(2, 3, 1, 6));
        refuses("no whole code", INDEX, RefusedTest::some, x -> x.character(2, 1, 0));
        refuses("no whole code", INDEX, RefusedTest::some, x -> x.confidence(2, 1, 0));
        refuses("a whole code has no head", INDEX, RefusedTest::some, x -> x.partCharacter(0, 0, false, 0));
        refuses("a whole code has no tail", INDEX, RefusedTest::some, x -> x.partCharacter(0, 0, true, 0));
        refuses("no tail", INDEX, RefusedTest::some, x -> x.partCharacter(2, 1, true, 0));
        refuses("no head", INDEX, RefusedTest::some, x -> x.partCharacter(3, 1, false, 0));
        refuses("nothing merged", INDEX, RefusedTest::some, x -> x.mergedCharacter(3, 2, 1, 0));
        refuses("nothing merged", INDEX, RefusedTest::some, x -> x.mergedCharacter(0, 1, 0, 0));
        refuses("nothing is read", INDEX, RefusedTest::full, x -> x.character(0, 0, 0));
    }

    // "Throws NoSuchElementException if no whole code is read"
    private static void moduleAndSpreadElement() {
        int[][] none = {{0, 1}, {0, 2}, {2, 1}, {3, 1}, {4, 0}, {6, 0}, {6, 1}, {6, 2}};
        for (int[] two : none) {
            refuses("module " + two[0] + ", " + two[1], ELEMENT, RefusedTest::some, x -> x.module(two[0], two[1]));
            refuses("spread " + two[0] + ", " + two[1], ELEMENT, RefusedTest::some, x -> x.spread(two[0], two[1]));
        }
        refuses("module of 3 widths", ELEMENT, RefusedTest::full, x -> x.module(23, 0));
        refuses("spread of 3 widths", ELEMENT, RefusedTest::full, x -> x.spread(23, 0));
    }

    // "Throws NoSuchElementException if no scan has a whole code", "... if there is no such scan"
    private static void bestScanAndWorstScan() {
        for (int symbology : NO_SYMBOLOGY) {
            refuses("bestScan", INDEX, RefusedTest::some, x -> x.bestScan(symbology));
            refuses("worstScan", INDEX, RefusedTest::some, x -> x.worstScan(symbology));
            refuses("bestScan of none", INDEX, RefusedTest::nothing, x -> x.bestScan(symbology));
            refuses("worstScan of none", INDEX, RefusedTest::nothing, x -> x.worstScan(symbology));
        }
        refuses("a head and a tail", ELEMENT, RefusedTest::some, x -> x.bestScan(1));
        refuses("a head and a tail", ELEMENT, RefusedTest::some, x -> x.worstScan(1));
        for (int s = 0; s < 3; s++) {
            int symbology = s;
            refuses("bestScan of none", ELEMENT, RefusedTest::nothing, x -> x.bestScan(symbology));
            refuses("worstScan of none", ELEMENT, RefusedTest::nothing, x -> x.worstScan(symbology));
            refuses("bestScan of 24", ELEMENT, RefusedTest::full, x -> x.bestScan(symbology));
            refuses("worstScan of 24", ELEMENT, RefusedTest::full, x -> x.worstScan(symbology));
        }
    }

    // ---- votes

    /** A call of a symbology that does not exist: in an empty, a used and a full engine. */
    private static void noSymbology(String what, ScanDeed call) {
        for (int symbology : NO_SYMBOLOGY) {
            refuses(what + " of " + symbology, INDEX, RefusedTest::some, x -> call.with(x, symbology));
            refuses(what + " of " + symbology, INDEX, RefusedTest::nothing, x -> call.with(x, symbology));
        }
        refuses(what + " of 3", INDEX, RefusedTest::full, x -> call.with(x, 3));
    }

    private static void votesThatDoNotExist() {
        noSymbology("length", (x, s) -> x.length(s));
        noSymbology("weight", (x, s) -> x.weight(s, 0, '1'));
        noSymbology("weight of all", (x, s) -> x.weight(s, -1, BarcodeEngine.NONE));
        noSymbology("voted", (x, s) -> x.voted(s, 0));
        noSymbology("runnerUp", (x, s) -> x.runnerUp(s, 0));
        noSymbology("problem", (x, s) -> x.problem(s));
        noSymbology("doubtful", (x, s) -> x.doubtful(s));
        noSymbology("repaired", (x, s) -> x.repaired(s));
        noSymbology("setCheck", (x, s) -> x.setCheck(s, false));
        noSymbology("setCheck", (x, s) -> x.setCheck(s, true));
    }

    // "Throws IndexOutOfBoundsException if the symbology or the place does not exist"
    private static void placesOfVotesThatDoNotExist() {
        int[] lengths = {8, 6, 3};
        for (int s = 0; s < 3; s++) {
            int symbology = s;
            for (int place : new int[] {-1, lengths[s], 16, 20, LEAST, MOST}) {
                refuses("weight at " + place, INDEX, RefusedTest::some, x -> x.weight(symbology, place, '1'));
                refuses("weight at " + place, INDEX, RefusedTest::some, x -> x.weight(symbology, place, -1));
                refuses("voted at " + place, INDEX, RefusedTest::some, x -> x.voted(symbology, place));
                refuses("runnerUp at " + place, INDEX, RefusedTest::some, x -> x.runnerUp(symbology, place));
            }
            refuses("weight without a length", INDEX, RefusedTest::nothing, x -> x.weight(symbology, 0, -1));
            refuses("voted without a length", INDEX, RefusedTest::nothing, x -> x.voted(symbology, 0));
            refuses("runnerUp without a length", INDEX, RefusedTest::nothing, x -> x.runnerUp(symbology, 0));
        }
    }

    private static void prints(BarcodeEngine x, int symbology, String... texts) {
        for (String text : texts) {
            Checks.print(x, symbology, text);
        }
    }

    // "Throws IllegalStateException if there is no length, or the number of places without a majority is
    // not 1"
    private static void repairedState() {
        for (int s = 0; s < 3; s++) {
            int symbology = s;
            refuses("no scan", STATE, RefusedTest::nothing, x -> x.repaired(symbology));
            refuses("no length", STATE, RefusedTest::full, x -> x.repaired(symbology));
        }
        refuses("0 places", STATE, x -> prints(x, 0, "12345670"), x -> x.repaired(0));
        refuses("2 places", STATE, x -> prints(x, 0, "12345670", "12345589"), x -> x.repaired(0));
        refuses("8 places", STATE, x -> prints(x, 0, "12345670", "23456781"), x -> x.repaired(0));
        refuses("0 places", STATE, x -> prints(x, 2, "A1B", "A1B"), x -> x.repaired(2));
        refuses("2 places", STATE, x -> prints(x, 2, "A1B", "A2C"), x -> x.repaired(2));
        refuses("a head and a tail without a doubt", STATE, RefusedTest::some, x -> x.repaired(1));
    }

    // "Throws NoSuchElementException if there is no such character, or more than one"
    private static void repairedElement() {
        refuses("the first place", ELEMENT, x -> prints(x, 2, "A1A", "B1A"), x -> x.repaired(2));
        refuses("the last place", ELEMENT, x -> prints(x, 2, "A1A", "A1C"), x -> x.repaired(2));
        refuses("the sum lacks 12", ELEMENT, x -> prints(x, 2, "A4A", "B4A"), x -> x.repaired(2));
        refuses("some", ELEMENT, RefusedTest::some, x -> x.repaired(2));
    }
}
