import java.util.NoSuchElementException;

public final class BarcodeEngine {
    public static final int NONE = -1;

    private static final int SYMBOLOGIES = 3;
    private static final int MOST_SCANS = 24;
    private static final int LEAST_WIDTHS = 3;
    private static final int MOST_WIDTHS = 129;
    private static final int GREATEST_WIDTH = 10000;
    private static final int MOST_BYTES = 60;
    private static final int MOST_CHARACTERS = 16;
    private static final int LEAST_PART = 2;
    private static final int LEAST_SEAM = 2;

    // The index of a character in this text is its value in the check of Codabar,
    // and the engine keeps all characters as these values.
    private static final String ALPHABET = "0123456789-$:/.+ABCD";
    private static final int VALUES = 20;
    private static final int FIRST_LETTER = 16;
    private static final int DIGITS = 10;

    // Four widths for each digit.
    private static final int[] EAN_WIDTHS = {
        3, 2, 1, 1, 2, 2, 2, 1, 2, 1, 2, 2, 1, 4, 1, 1, 1, 1, 3, 2,
        1, 2, 3, 1, 1, 1, 1, 4, 1, 3, 1, 2, 1, 2, 1, 3, 3, 1, 1, 2
    };
    // The widths of a character, a bit each, the first one highest: 1 is 3 modules, 0 is 1.
    private static final int[] INTERLEAVED_PATTERNS = {
        0b00110, 0b10001, 0b01001, 0b11000, 0b00101, 0b10100, 0b01100, 0b00011, 0b10010, 0b01010
    };
    private static final int[] CODABAR_PATTERNS = {
        0b0000011, 0b0000110, 0b0001001, 0b1100000, 0b0010010,
        0b1000010, 0b0100001, 0b0100100, 0b0110000, 0b1001000,
        0b0001100, 0b0011000, 0b1000101, 0b1010001, 0b1010100, 0b0010101,
        0b0011010, 0b0101001, 0b0001011, 0b0001110
    };

    private final int[] text = new int[MOST_BYTES];
    private int textLength;
    private final Row pending = new Row();
    private final Scan[] scans = new Scan[MOST_SCANS];
    private int scansUsed;
    private final Symbology[] kinds = {new Ean8(), new Interleaved(), new Codabar()};
    private final Tally[] tallies = {new Tally(), new Tally(), new Tally()};
    private final boolean[] checks = {true, false, false};
    // Kept from call to call, so that no call makes rows of its own.
    private final Row arguments = new Row();
    private final Row backward = new Row();
    private final Row modules = new Row();
    private final Sequence code = new Sequence();

    public BarcodeEngine() {
        for (int i = 0; i < MOST_SCANS; i++) {
            scans[i] = new Scan();
        }
    }

    // ---- scans

    public int append(int a, int b, int c, int d, int e) throws IllegalStateException {
        if (textLength + 20 > MOST_BYTES) {
            throw new IllegalStateException("the text buffer is full");
        }
        appendBytes(a);
        appendBytes(b);
        appendBytes(c);
        appendBytes(d);
        appendBytes(e);
        return textLength;
    }

    public int print(int symbology, int length, int module, int spread, int seed)
            throws IndexOutOfBoundsException, IllegalArgumentException, IllegalStateException {
        requireSymbology(symbology);
        requireTextLength(length);
        if (module < 4 || module > 40 || spread < -3 || spread > 3) {
            throw new IllegalArgumentException("module or spread out of range");
        }
        Symbology kind = kinds[symbology];
        takeText(length);
        if (!kind.hasLength(length) || !isCode(kind)) {
            throw new IllegalArgumentException("the bytes are no code");
        }
        requireRoomForScan();
        modules.size = 0;
        kind.draw(code, modules);
        Scan scan = scans[scansUsed];
        scan.row.size = 0;
        scan.row.add(10 * module);
        addPrinted(scan.row, module, spread, seed);
        scan.row.add(10 * module);
        textLength = 0;
        return keepScan(scan);
    }

    public int checkCharacter(int symbology, int length)
            throws IndexOutOfBoundsException, IllegalArgumentException {
        requireSymbology(symbology);
        requireTextLength(length);
        Symbology kind = kinds[symbology];
        int place = kind.checkPlace(length + 1);
        takeText(length);
        code.insert(place, 0);
        if (!kind.hasLength(length + 1) || !isCode(kind)) {
            throw new IllegalArgumentException("the bytes are no code without its check character");
        }
        return characterOf(rightValue(kind, place));
    }

    public int addWidths(int a, int b, int c, int d, int e, int f)
            throws IllegalArgumentException, IllegalStateException {
        arguments.size = 0;
        arguments.add(a);
        arguments.add(b);
        arguments.add(c);
        arguments.add(d);
        arguments.add(e);
        arguments.add(f);
        if (!arguments.isWithin(0, GREATEST_WIDTH)) {
            throw new IllegalArgumentException("a width is out of range");
        }
        int count = arguments.countBeforeZero();
        if (pending.size + count > MOST_WIDTHS) {
            throw new IllegalStateException("too many pending widths");
        }
        for (int i = 0; i < count; i++) {
            pending.add(arguments.widths[i]);
        }
        return pending.size;
    }

    public int endScan() throws IllegalStateException {
        if (pending.size < LEAST_WIDTHS || pending.size % 2 == 0) {
            throw new IllegalStateException("the pending widths are no scan");
        }
        requireRoomForScan();
        Scan scan = scans[scansUsed];
        scan.row.copy(pending);
        pending.size = 0;
        return keepScan(scan);
    }

    public int scanCount() {
        return scansUsed;
    }

    public int widthCount(int scan) throws IndexOutOfBoundsException {
        requireScan(scan);
        return scans[scan].row.size;
    }

    public int width(int scan, int index) throws IndexOutOfBoundsException {
        requireScan(scan);
        Row row = scans[scan].row;
        requirePlace(index, row.size);
        return row.widths[index];
    }

    public int setWidth(int scan, int index, int width)
            throws IndexOutOfBoundsException, IllegalArgumentException {
        requireScan(scan);
        Row row = scans[scan].row;
        requirePlace(index, row.size);
        if (width < 1 || width > GREATEST_WIDTH) {
            throw new IllegalArgumentException("the width is out of range");
        }
        int previous = row.widths[index];
        row.widths[index] = width;
        forget(scans[scan]);
        return previous;
    }

    public int cut(int scan, int from, int to)
            throws IndexOutOfBoundsException, IllegalArgumentException {
        requireScan(scan);
        Row row = scans[scan].row;
        requirePlace(from, row.size);
        requirePlace(to, row.size);
        if (from % 2 != 0 || to % 2 != 0 || to < from + 2) {
            throw new IllegalArgumentException("these widths are no scan");
        }
        row.keep(from, to);
        forget(scans[scan]);
        return row.size;
    }

    public void reverse(int scan) throws IndexOutOfBoundsException {
        requireScan(scan);
        Row row = scans[scan].row;
        backward.copyReversed(row);
        row.copy(backward);
        forget(scans[scan]);
    }

    public int smear(int scan, int amount)
            throws IndexOutOfBoundsException, IllegalArgumentException {
        requireScan(scan);
        if (amount < -100 || amount > 100) {
            throw new IllegalArgumentException("the amount is out of range");
        }
        int limited = scans[scan].row.widenBars(amount);
        forget(scans[scan]);
        return limited;
    }

    public void average(int scan, int other)
            throws IndexOutOfBoundsException, IllegalArgumentException {
        requireScan(scan);
        requireScan(other);
        Row row = scans[scan].row;
        Row second = scans[other].row;
        if (row.size != second.size) {
            throw new IllegalArgumentException("the scans have different numbers of widths");
        }
        for (int i = 0; i < row.size; i++) {
            row.widths[i] = (row.widths[i] + second.widths[i] + 1) / 2;
        }
        forget(scans[scan]);
    }

    public int removeScan(int scan) throws IndexOutOfBoundsException {
        requireScan(scan);
        Scan removed = scans[scan];
        for (int i = scan; i + 1 < scansUsed; i++) {
            scans[i] = scans[i + 1];
        }
        scansUsed--;
        scans[scansUsed] = removed;
        forget(removed);
        return scansUsed;
    }

    // ---- readings

    public int read(int scan, int symbology) throws IndexOutOfBoundsException {
        return reading(scan, symbology).whole.count;
    }

    public int readPart(int scan, int symbology, boolean tail) throws IndexOutOfBoundsException {
        return reading(scan, symbology).part(tail).count;
    }

    public int character(int scan, int symbology, int place) throws IndexOutOfBoundsException {
        Sequence whole = reading(scan, symbology).whole;
        requirePlace(place, whole.count);
        return characterOf(whole.values[place]);
    }

    public int confidence(int scan, int symbology, int place) throws IndexOutOfBoundsException {
        Sequence whole = reading(scan, symbology).whole;
        requirePlace(place, whole.count);
        return whole.confidences[place];
    }

    public int partCharacter(int scan, int symbology, boolean tail, int place)
            throws IndexOutOfBoundsException {
        Sequence part = reading(scan, symbology).part(tail);
        requirePlace(place, part.count);
        return characterOf(part.values[place]);
    }

    public boolean isReversed(int scan, int symbology) throws IndexOutOfBoundsException {
        return reading(scan, symbology).reversed;
    }

    public int agreement(int scan, int other, int symbology) throws IndexOutOfBoundsException {
        Sequence first = reading(scan, symbology).whole;
        Sequence second = reading(other, symbology).whole;
        if (first.count == 0 || first.count != second.count) {
            return NONE;
        }
        int same = 0;
        for (int i = 0; i < first.count; i++) {
            if (first.values[i] == second.values[i]) {
                same++;
            }
        }
        return same;
    }

    public int overlap(int head, int tail, int symbology) throws IndexOutOfBoundsException {
        Sequence front = reading(head, symbology).head;
        Sequence back = reading(tail, symbology).tail;
        if (front.count == 0 || back.count == 0) {
            return NONE;
        }
        int most = Math.min(front.count, back.count);
        for (int shared = most; shared > 0; shared--) {
            if (front.endsLike(back, shared)) {
                return shared;
            }
        }
        return 0;
    }

    public int module(int scan, int symbology)
            throws IndexOutOfBoundsException, NoSuchElementException {
        Reading reading = reading(scan, symbology);
        drawWhole(kinds[symbology], reading);
        long total = modules.sum(0, modules.size - 1, 1);
        if (total <= 0) {
            return 0;
        }
        long widths = scans[scan].row.sum(reading.firstBar, reading.lastBar, 1);
        return (int) (100 * widths / total);
    }

    public int spread(int scan, int symbology)
            throws IndexOutOfBoundsException, NoSuchElementException {
        Reading reading = reading(scan, symbology);
        drawWhole(kinds[symbology], reading);
        long total = modules.sum(0, modules.size - 1, 1);
        long totalOfBars = modules.sum(0, modules.size - 1, 2);
        Row row = scans[scan].row;
        long widths = row.sum(reading.firstBar, reading.lastBar, 1);
        long widthsOfBars = row.sum(reading.firstBar, reading.lastBar, 2);
        long divisor = (modules.size + 1) / 2 * total;
        if (divisor <= 0) {
            return 0;
        }
        return (int) Math.floorDiv(100 * (widthsOfBars * total - widths * totalOfBars), divisor);
    }

    public int mergedLength(int head, int tail, int symbology) throws IndexOutOfBoundsException {
        Sequence front = reading(head, symbology).head;
        Sequence back = reading(tail, symbology).tail;
        int seam = kinds[symbology].seam(front, back);
        return seam == NONE ? 0 : front.count + back.count - seam;
    }

    public int mergedCharacter(int head, int tail, int symbology, int place)
            throws IndexOutOfBoundsException {
        Sequence front = reading(head, symbology).head;
        Sequence back = reading(tail, symbology).tail;
        int seam = kinds[symbology].seam(front, back);
        requirePlace(place, seam == NONE ? 0 : front.count + back.count - seam);
        if (place < front.count) {
            return characterOf(front.values[place]);
        }
        return characterOf(back.values[place - front.count + seam]);
    }

    public int bestScan(int symbology) throws IndexOutOfBoundsException, NoSuchElementException {
        requireSymbology(symbology);
        int best = NONE;
        int greatest = NONE;
        for (int i = 0; i < scansUsed; i++) {
            Sequence whole = reading(i, symbology).whole;
            if (whole.count > 0 && whole.leastConfidence() > greatest) {
                best = i;
                greatest = whole.leastConfidence();
            }
        }
        if (best == NONE) {
            throw new NoSuchElementException("no scan has a whole code");
        }
        return best;
    }

    // ---- votes

    public int length(int symbology) throws IndexOutOfBoundsException {
        return tally(symbology).places;
    }

    public int weight(int symbology, int place, int character) throws IndexOutOfBoundsException {
        Tally tally = tally(symbology);
        requirePlace(place, tally.places);
        if (character == NONE) {
            return tally.totals[place];
        }
        int value = valueOf(character);
        return value == NONE ? 0 : tally.weightOf(place, value);
    }

    public int voted(int symbology, int place) throws IndexOutOfBoundsException {
        Tally tally = tally(symbology);
        requirePlace(place, tally.places);
        return characterOf(tally.majorities[place]);
    }

    public int runnerUp(int symbology, int place) throws IndexOutOfBoundsException {
        Tally tally = tally(symbology);
        requirePlace(place, tally.places);
        int first = strongest(tally, place, NONE);
        return first == NONE ? NONE : characterOf(strongest(tally, place, first));
    }

    public int problem(int symbology) throws IndexOutOfBoundsException {
        return problemOf(tally(symbology), symbology);
    }

    public int doubtful(int symbology) throws IndexOutOfBoundsException {
        return tally(symbology).firstDoubt();
    }

    public int repaired(int symbology)
            throws IndexOutOfBoundsException, IllegalStateException, NoSuchElementException {
        Tally tally = tally(symbology);
        if (tally.doubts() != 1) {
            throw new IllegalStateException("not just one place is without a majority");
        }
        code.copyValues(tally.majorities, tally.places);
        int value = rightValue(kinds[symbology], tally.firstDoubt());
        if (value == NONE) {
            throw new NoSuchElementException("not just one character repairs the code");
        }
        return characterOf(value);
    }

    public int winner() {
        int winner = NONE;
        int greatest = NONE;
        for (int symbology = 0; symbology < SYMBOLOGIES; symbology++) {
            Tally tally = tally(symbology);
            if (problemOf(tally, symbology) == 0 && tally.share() > greatest) {
                winner = symbology;
                greatest = tally.share();
            }
        }
        return winner;
    }

    public int worstScan(int symbology) throws IndexOutOfBoundsException, NoSuchElementException {
        Tally tally = tally(symbology);
        int worst = NONE;
        int most = NONE;
        for (int i = 0; i < scansUsed; i++) {
            Sequence whole = reading(i, symbology).whole;
            if (whole.count > 0 && whole.count == tally.places && tally.disagreements(whole) > most) {
                worst = i;
                most = tally.disagreements(whole);
            }
        }
        if (worst == NONE) {
            throw new NoSuchElementException("no scan has a whole code of the length");
        }
        return worst;
    }

    public boolean setCheck(int symbology, boolean on) throws IndexOutOfBoundsException {
        requireSymbology(symbology);
        boolean previous = checks[symbology];
        checks[symbology] = on;
        return previous;
    }

    // ---- tests of arguments

    private void requireScan(int scan) {
        if (scan < 0 || scan >= scansUsed) {
            throw new IndexOutOfBoundsException("no such scan");
        }
    }

    private static void requireSymbology(int symbology) {
        if (symbology < 0 || symbology >= SYMBOLOGIES) {
            throw new IndexOutOfBoundsException("no such symbology");
        }
    }

    private static void requirePlace(int place, int count) {
        if (place < 0 || place >= count) {
            throw new IndexOutOfBoundsException("no such place");
        }
    }

    private void requireTextLength(int count) {
        if (count < 0 || count > textLength) {
            throw new IllegalArgumentException("the text buffer has no so many bytes");
        }
    }

    private void requireRoomForScan() {
        if (scansUsed >= MOST_SCANS) {
            throw new IllegalStateException("there are already 24 scans");
        }
    }

    // ---- text and characters

    private void appendBytes(int four) {
        for (int shift = 24; shift >= 0 && textLength < MOST_BYTES; shift -= 8) {
            text[textLength] = four >>> shift & 255;
            textLength++;
        }
    }

    private static int valueOf(int character) {
        return character < 0 || character > 127 ? NONE : ALPHABET.indexOf((char) character);
    }

    private static int characterOf(int value) {
        return value < 0 || value >= VALUES ? NONE : ALPHABET.charAt(value);
    }

    /** Takes the first bytes as the code; bytes beyond the longest code are left out. */
    private void takeText(int count) {
        code.count = 0;
        for (int i = 0; i < count && i < MOST_BYTES; i++) {
            code.add(valueOf(text[i]), 0);
        }
    }

    private boolean isCode(Symbology kind) {
        for (int i = 0; i < code.count; i++) {
            if (!kind.allows(code.values[i], i, code.count)) {
                return false;
            }
        }
        return true;
    }

    /** The only character that makes the code right at the place, or NONE; the place is overwritten. */
    private int rightValue(Symbology kind, int place) {
        if (place < 0 || place >= code.count) {
            return NONE;
        }
        int right = NONE;
        int found = 0;
        for (int value = 0; value < VALUES; value++) {
            code.values[place] = value;
            if (kind.allows(value, place, code.count) && kind.isRight(code)) {
                right = value;
                found++;
            }
        }
        return found == 1 ? right : NONE;
    }

    // ---- scans, readings and votes

    /** Prints what stands in modules, which begins with a bar. */
    private void addPrinted(Row row, int module, int spread, int seed) {
        int state = seed;
        for (int i = 0; i < modules.size; i++) {
            int width = modules.widths[i] * module + (i % 2 == 0 ? spread : -spread);
            if (seed != 0) {
                state = 1103515245 * state + 12345;
                width += (state >>> 16) % 3 - 1;
            }
            row.add(Math.max(width, 1));
        }
    }

    /** Puts the modules of the whole code that is read, if there is one. */
    private void drawWhole(Symbology kind, Reading reading) {
        if (reading.whole.count == 0) {
            throw new NoSuchElementException("no whole code is read");
        }
        modules.size = 0;
        kind.draw(reading.whole, modules);
    }

    private int keepScan(Scan scan) {
        scansUsed++;
        forget(scan);
        return scansUsed - 1;
    }

    /** What was read from the scan, and all votes, no longer hold. */
    private void forget(Scan scan) {
        for (int i = 0; i < SYMBOLOGIES; i++) {
            scan.readings[i].isFresh = false;
            tallies[i].isFresh = false;
        }
    }

    private Reading reading(int scan, int symbology) {
        requireScan(scan);
        requireSymbology(symbology);
        Reading reading = scans[scan].readings[symbology];
        kinds[symbology].interpret(scans[scan].row, backward, reading);
        return reading;
    }

    private Tally tally(int symbology) {
        requireSymbology(symbology);
        Tally tally = tallies[symbology];
        if (tally.isFresh) {
            return tally;
        }
        Symbology kind = kinds[symbology];
        for (int i = 0; i < scansUsed; i++) {
            kind.interpret(scans[i].row, backward, scans[i].readings[symbology]);
        }
        tally.recount(kind, symbology, scans, scansUsed);
        return tally;
    }

    private int problemOf(Tally tally, int symbology) {
        if (tally.places == 0) {
            return 1;
        }
        if (tally.doubts() > 0) {
            return 2;
        }
        code.copyValues(tally.majorities, tally.places);
        return checks[symbology] && !kinds[symbology].isRight(code) ? 3 : 0;
    }

    /** The value with the greatest weight at the place, leaving out one value; NONE without votes. */
    private static int strongest(Tally tally, int place, int leftOut) {
        int best = NONE;
        int greatest = 0;
        for (int value = 0; value < VALUES; value++) {
            int weight = tally.weightOf(place, value);
            boolean isFirst = weight == greatest && best != NONE
                    && characterOf(value) < characterOf(best);
            if (value != leftOut && (weight > greatest || isFirst)) {
                best = value;
                greatest = weight;
            }
        }
        return best;
    }

    /** A row of widths: of a scan, or of the modules of a code. */
    private static final class Row {
        final int[] widths = new int[MOST_WIDTHS];
        int size;
        // Of the characters that were matched last.
        int certainty;

        void add(int width) {
            if (size < widths.length) {
                widths[size] = width;
                size++;
            }
        }

        void copy(Row other) {
            size = other.size;
            for (int i = 0; i < size; i++) {
                widths[i] = other.widths[i];
            }
        }

        void copyReversed(Row other) {
            size = other.size;
            for (int i = 0; i < size; i++) {
                widths[i] = other.widths[size - 1 - i];
            }
        }

        void keep(int from, int to) {
            if (from < 0 || to >= size) {
                return;
            }
            for (int i = from; i <= to; i++) {
                widths[i - from] = widths[i];
            }
            size = to - from + 1;
        }

        boolean isWithin(int least, int greatest) {
            for (int i = 0; i < size; i++) {
                if (widths[i] < least || widths[i] > greatest) {
                    return false;
                }
            }
            return true;
        }

        int countBeforeZero() {
            int count = 0;
            while (count < size && widths[count] != 0) {
                count++;
            }
            return count;
        }

        /** Widens the bars, narrows the spaces between them; the number of widths limited. */
        int widenBars(int amount) {
            int limited = 0;
            for (int i = 1; i < size - 1; i++) {
                int wanted = widths[i] + (i % 2 == 1 ? amount : -amount);
                int width = Math.max(1, Math.min(wanted, GREATEST_WIDTH));
                if (width != wanted) {
                    limited++;
                }
                widths[i] = width;
            }
            return limited;
        }

        long sum(int from, int to, int step) {
            long sum = 0;
            if (from < 0 || to >= size || step < 1) {
                return sum;
            }
            for (int i = from; i <= to; i += step) {
                sum += widths[i];
            }
            return sum;
        }

        boolean has(int from, int count) {
            return from >= 0 && from + count <= size;
        }

        boolean isEven(int from, int count) {
            if (from < 0 || count < 1 || from + count > size) {
                return false;
            }
            int least = widths[from];
            int greatest = least;
            for (int i = from; i < from + count; i++) {
                least = widths[i] < least ? widths[i] : least;
                greatest = widths[i] > greatest ? widths[i] : greatest;
            }
            return greatest <= 2 * least;
        }

        /** Tells whether the space is a quiet zone for the least one of some widths. */
        boolean isQuiet(int space, int from, int count) {
            if (space < 0 || space >= size || from < 0 || count < 1 || from + count > size) {
                return false;
            }
            int least = widths[from];
            for (int i = from; i < from + count; i++) {
                least = widths[i] < least ? widths[i] : least;
            }
            return widths[space] >= 5 * least;
        }

        /** Tells narrow from wide widths, and finds them in a table: the index there, or NONE. */
        int match(int from, int step, int count, int[] patterns) {
            int last = from + step * (count - 1);
            if (from < 0 || last < from || last >= size) {
                return NONE;
            }
            int least = widths[from];
            int greatest = least;
            for (int i = from; i <= last; i += step) {
                least = widths[i] < least ? widths[i] : least;
                greatest = widths[i] > greatest ? widths[i] : greatest;
            }
            if (2 * greatest < 3 * least) {
                return NONE;
            }
            int bits = 0;
            int leastWide = greatest;
            int greatestNarrow = least;
            for (int i = from; i <= last; i += step) {
                int width = widths[i];
                if (2 * width > least + greatest) {
                    bits = 2 * bits + 1;
                    leastWide = width < leastWide ? width : leastWide;
                } else {
                    bits = 2 * bits;
                    greatestNarrow = width > greatestNarrow ? width : greatestNarrow;
                }
            }
            int quotient = leastWide < 1 ? 0 : 150 * (leastWide - greatestNarrow) / leastWide;
            certainty = quotient > 100 ? 100 : quotient;
            for (int i = 0; i < patterns.length; i++) {
                if (patterns[i] == bits) {
                    return i;
                }
            }
            return NONE;
        }
    }

    /** Characters in order, as values, with their confidences. */
    private static final class Sequence {
        final int[] values = new int[MOST_CHARACTERS];
        final int[] confidences = new int[MOST_CHARACTERS];
        int count;

        void add(int value, int confidence) {
            if (count < values.length) {
                values[count] = value;
                confidences[count] = confidence;
                count++;
            }
        }

        void insert(int place, int value) {
            if (place < 0 || place > count || count >= values.length) {
                return;
            }
            for (int i = count; i > place; i--) {
                values[i] = values[i - 1];
            }
            values[place] = value;
            count++;
        }

        void copyValues(int[] source, int size) {
            count = 0;
            for (int i = 0; i < size && i < source.length; i++) {
                add(source[i], 0);
            }
        }

        int leastConfidence() {
            int least = 100;
            for (int i = 0; i < count; i++) {
                least = Math.min(least, confidences[i]);
            }
            return least;
        }

        /** Tells whether the last characters equal the first ones of a tail. */
        boolean endsLike(Sequence tail, int shared) {
            if (shared < 0 || shared > count || shared > tail.count) {
                return false;
            }
            for (int i = 0; i < shared; i++) {
                if (values[count - shared + i] != tail.values[i]) {
                    return false;
                }
            }
            return true;
        }
    }

    /** What is read from a scan in one symbology. */
    private static final class Reading {
        final Sequence whole = new Sequence();
        final Sequence head = new Sequence();
        final Sequence tail = new Sequence();
        boolean isFresh;
        boolean reversed;
        // Of the whole code, as indices in the scan as it is.
        int firstBar;
        int lastBar;

        Sequence part(boolean ofEnd) {
            return ofEnd ? tail : head;
        }

        void clear() {
            whole.count = 0;
            head.count = 0;
            tail.count = 0;
            reversed = false;
            firstBar = 0;
            lastBar = 0;
        }

        void turn(int size) {
            int first = firstBar;
            firstBar = size - 1 - lastBar;
            lastBar = size - 1 - first;
            reversed = true;
        }
    }

    private static final class Scan {
        final Row row = new Row();
        final Reading[] readings = {new Reading(), new Reading(), new Reading()};
    }

    /**
     * A symbology. The widths that are read together with what separates them from the next ones
     * are a unit: a digit, a pair, a character with its gap.
     */
    private abstract static class Symbology {
        final int startStep;
        final int stopStep;
        final int unitStep;
        final int mostUnits;

        Symbology(int startStep, int stopStep, int unitStep, int mostUnits) {
            this.startStep = startStep;
            this.stopStep = stopStep;
            this.unitStep = unitStep;
            this.mostUnits = mostUnits;
        }

        abstract boolean hasLength(int count);

        /** Puts the modules of a code, from its first bar to its last one. */
        abstract void draw(Sequence code, Row modules);

        abstract boolean beginsAt(Row row, int bar);

        abstract boolean endsAt(Row row, int bar);

        /** Adds the characters of the unit, if it can be read. */
        abstract boolean addUnit(Row row, int from, Sequence characters);

        /** Adds the character that the start or the stop is, if it is one. */
        void addGuard(Row row, int from, Sequence characters) {
        }

        boolean allows(int value, int place, int count) {
            return value >= 0 && value < DIGITS;
        }

        int checkPlace(int count) {
            return count - 1;
        }

        boolean isRight(Sequence code) {
            int sum = 0;
            for (int i = 0; i < code.count; i++) {
                sum += i % 2 == 0 ? 3 * code.values[i] : code.values[i];
            }
            return sum % 10 == 0;
        }

        /** The overlap with which a head and a tail make a code together, or NONE. */
        int seam(Sequence head, Sequence tail) {
            for (int shared = Math.min(head.count, tail.count); shared >= LEAST_SEAM; shared--) {
                if (head.endsLike(tail, shared) && hasLength(head.count + tail.count - shared)) {
                    return shared;
                }
            }
            return NONE;
        }

        /** The length of the code that the heads and tails of all scans make, or 0. */
        int joinedLength(int symbology, Scan[] scans, int scanCount) {
            int greatest = NONE;
            int joined = 0;
            for (int i = 0; i < scanCount; i++) {
                Sequence head = scans[i].readings[symbology].head;
                for (int j = 0; j < scanCount; j++) {
                    Sequence tail = scans[j].readings[symbology].tail;
                    int seam = i == j ? NONE : seam(head, tail);
                    if (seam > greatest) {
                        greatest = seam;
                        joined = head.count + tail.count - seam;
                    }
                }
            }
            return joined;
        }

        final void interpret(Row row, Row backward, Reading reading) {
            if (reading.isFresh) {
                return;
            }
            reading.isFresh = true;
            reading.clear();
            if (findWhole(row, reading)) {
                return;
            }
            backward.copyReversed(row);
            if (findWhole(backward, reading)) {
                reading.turn(row.size);
            } else if (!findParts(row, reading)) {
                reading.reversed = findParts(backward, reading);
            }
        }

        private boolean findWhole(Row row, Reading reading) {
            for (int bar = 1; bar < row.size; bar += 2) {
                int last = beginsAt(row, bar) ? addWhole(row, bar, reading.whole) : NONE;
                if (last != NONE) {
                    reading.firstBar = bar;
                    reading.lastBar = last;
                    return true;
                }
            }
            reading.whole.count = 0;
            return false;
        }

        /** Reads a whole code from a beginning; the index of its last bar, or NONE. */
        int addWhole(Row row, int bar, Sequence whole) {
            whole.count = 0;
            addGuard(row, bar, whole);
            int from = bar + startStep;
            for (int unit = 0; unit < mostUnits && addUnit(row, from, whole); unit++) {
                from += unitStep;
                if (endsAt(row, from + stopStep)) {
                    addGuard(row, from, whole);
                    return from + stopStep;
                }
            }
            return NONE;
        }

        private boolean findParts(Row row, Reading reading) {
            Sequence head = reading.head;
            head.count = 0;
            for (int bar = 1; bar < row.size && head.count < LEAST_PART; bar += 2) {
                head.count = 0;
                if (beginsAt(row, bar)) {
                    addHead(row, bar, head);
                }
            }
            Sequence tail = reading.tail;
            tail.count = 0;
            for (int bar = row.size - 2; bar > 0 && tail.count < LEAST_PART; bar -= 2) {
                tail.count = 0;
                if (endsAt(row, bar)) {
                    addTail(row, bar, tail);
                }
            }
            head.count = head.count < LEAST_PART ? 0 : head.count;
            tail.count = tail.count < LEAST_PART ? 0 : tail.count;
            return head.count > 0 || tail.count > 0;
        }

        private void addHead(Row row, int bar, Sequence head) {
            addGuard(row, bar, head);
            int from = bar + startStep;
            for (int unit = 0; unit < mostUnits && addUnit(row, from, head); unit++) {
                from += unitStep;
            }
        }

        private void addTail(Row row, int bar, Sequence tail) {
            int from = bar - stopStep;
            int units = 0;
            while (units < mostUnits && addUnit(row, from - unitStep, tail)) {
                from -= unitStep;
                units++;
            }
            // Their characters have come in the wrong order, so they are read again forwards.
            tail.count = 0;
            for (int unit = 0; unit < units; unit++) {
                addUnit(row, from, tail);
                from += unitStep;
            }
            addGuard(row, from, tail);
        }
    }

    private static final class Ean8 extends Symbology {
        Ean8() {
            super(3, 2, 4, 4);
        }

        boolean hasLength(int count) {
            return count == 8;
        }

        void draw(Sequence code, Row modules) {
            addOnes(modules, 3);
            for (int i = 0; i < code.count; i++) {
                if (i == 4) {
                    addOnes(modules, 5);
                }
                int from = 4 * code.values[i];
                for (int k = from; k < from + 4 && k >= 0 && k < EAN_WIDTHS.length; k++) {
                    modules.add(EAN_WIDTHS[k]);
                }
            }
            addOnes(modules, 3);
        }

        private static void addOnes(Row modules, int count) {
            for (int i = 0; i < count; i++) {
                modules.add(1);
            }
        }

        boolean beginsAt(Row row, int bar) {
            return row.isEven(bar, 3) && row.isQuiet(bar - 1, bar, 3);
        }

        boolean endsAt(Row row, int bar) {
            return row.isEven(bar - 2, 3) && row.isQuiet(bar + 1, bar - 2, 3);
        }

        int addWhole(Row row, int bar, Sequence whole) {
            whole.count = 0;
            int from = bar + startStep;
            for (int i = 0; i < 8; i++) {
                if (i == 4) {
                    if (!row.isEven(from, 5)) {
                        return NONE;
                    }
                    from += 5;
                }
                if (!addUnit(row, from, whole)) {
                    return NONE;
                }
                from += unitStep;
            }
            return endsAt(row, from + stopStep) ? from + stopStep : NONE;
        }

        boolean addUnit(Row row, int from, Sequence characters) {
            if (!row.has(from, 4)) {
                return false;
            }
            int first = row.widths[from] + row.widths[from + 1];
            int second = row.widths[from + 1] + row.widths[from + 2];
            int sum = first + row.widths[from + 2] + row.widths[from + 3];
            if (sum < 1) {
                return false;
            }
            int e = (14 * first + sum) / (2 * sum);
            int f = (14 * second + sum) / (2 * sum);
            boolean isWide = 7 * (row.widths[from] + row.widths[from + 2]) >= 3 * sum;
            int digit = digitOf(e, f, isWide);
            if (digit == NONE) {
                return false;
            }
            int miss = Math.max(Math.abs(7 * first - e * sum), Math.abs(7 * second - f * sum));
            characters.add(digit, 100 - 200 * miss / sum);
            return true;
        }

        private static int digitOf(int e, int f, boolean isWide) {
            switch (10 * e + f) {
                case 53:
                    return 0;
                case 44:
                    return isWide ? 1 : 7;
                case 33:
                    return isWide ? 2 : 8;
                case 55:
                    return 3;
                case 24:
                    return 4;
                case 35:
                    return 5;
                case 22:
                    return 6;
                case 42:
                    return 9;
                default:
                    return NONE;
            }
        }

        int seam(Sequence head, Sequence tail) {
            return head.count == 4 && tail.count == 4 ? 0 : NONE;
        }

        int joinedLength(int symbology, Scan[] scans, int scanCount) {
            boolean hasHead = false;
            boolean hasTail = false;
            for (int i = 0; i < scanCount; i++) {
                hasHead = hasHead || scans[i].readings[symbology].head.count > 0;
                hasTail = hasTail || scans[i].readings[symbology].tail.count > 0;
            }
            return hasHead && hasTail ? 8 : 0;
        }
    }

    private static final class Interleaved extends Symbology {
        Interleaved() {
            super(4, 2, 10, 7);
        }

        boolean hasLength(int count) {
            return count >= 2 && count <= 14 && count % 2 == 0;
        }

        void draw(Sequence code, Row modules) {
            for (int i = 0; i < 4; i++) {
                modules.add(1);
            }
            for (int i = 0; i + 1 < code.count; i += 2) {
                int bars = patternOf(code.values[i]);
                int spaces = patternOf(code.values[i + 1]);
                for (int shift = 4; shift >= 0; shift--) {
                    modules.add((bars >> shift & 1) == 1 ? 3 : 1);
                    modules.add((spaces >> shift & 1) == 1 ? 3 : 1);
                }
            }
            modules.add(3);
            modules.add(1);
            modules.add(1);
        }

        private static int patternOf(int value) {
            return value < 0 || value >= INTERLEAVED_PATTERNS.length ? 0 : INTERLEAVED_PATTERNS[value];
        }

        boolean beginsAt(Row row, int bar) {
            return row.isEven(bar, 4) && row.isQuiet(bar - 1, bar, 4);
        }

        boolean endsAt(Row row, int bar) {
            if (!row.has(bar - 2, 3)) {
                return false;
            }
            int wide = 2 * row.widths[bar - 2];
            return wide >= 3 * row.widths[bar - 1] && wide >= 3 * row.widths[bar]
                    && row.isQuiet(bar + 1, bar - 2, 3);
        }

        boolean addUnit(Row row, int from, Sequence characters) {
            int first = row.match(from, 2, 5, INTERLEAVED_PATTERNS);
            int certaintyOfFirst = row.certainty;
            int second = row.match(from + 1, 2, 5, INTERLEAVED_PATTERNS);
            if (first == NONE || second == NONE) {
                return false;
            }
            characters.add(first, certaintyOfFirst);
            characters.add(second, row.certainty);
            return true;
        }
    }

    private static final class Codabar extends Symbology {
        Codabar() {
            super(8, 6, 8, 14);
        }

        boolean hasLength(int count) {
            return count >= 3 && count <= MOST_CHARACTERS;
        }

        boolean allows(int value, int place, int count) {
            boolean isLetter = value >= FIRST_LETTER && value < VALUES;
            boolean isInner = value >= 0 && value < FIRST_LETTER;
            return place == 0 || place == count - 1 ? isLetter : isInner;
        }

        int checkPlace(int count) {
            return count - 2;
        }

        boolean isRight(Sequence code) {
            int sum = 0;
            for (int i = 0; i < code.count; i++) {
                sum += code.values[i];
            }
            return sum % 16 == 0;
        }

        void draw(Sequence code, Row modules) {
            for (int i = 0; i < code.count; i++) {
                if (i > 0) {
                    modules.add(1);
                }
                int value = code.values[i];
                int pattern = value < 0 || value >= VALUES ? 0 : CODABAR_PATTERNS[value];
                for (int shift = 6; shift >= 0; shift--) {
                    modules.add((pattern >> shift & 1) == 1 ? 3 : 1);
                }
            }
        }

        boolean beginsAt(Row row, int bar) {
            return row.match(bar, 1, 7, CODABAR_PATTERNS) >= FIRST_LETTER
                    && row.isQuiet(bar - 1, bar, 7);
        }

        boolean endsAt(Row row, int bar) {
            return row.match(bar - 6, 1, 7, CODABAR_PATTERNS) >= FIRST_LETTER
                    && row.isQuiet(bar + 1, bar - 6, 7);
        }

        void addGuard(Row row, int from, Sequence characters) {
            int value = row.match(from, 1, 7, CODABAR_PATTERNS);
            if (value >= FIRST_LETTER) {
                characters.add(value, row.certainty);
            }
        }

        boolean addUnit(Row row, int from, Sequence characters) {
            int value = row.match(from, 1, 7, CODABAR_PATTERNS);
            if (value < 0 || value >= FIRST_LETTER) {
                return false;
            }
            characters.add(value, row.certainty);
            return true;
        }
    }

    /** The votes of all scans in one symbology. */
    private static final class Tally {
        private final int[] weights = new int[MOST_CHARACTERS * VALUES];
        private final int[] supports = new int[MOST_CHARACTERS + 1];
        final int[] totals = new int[MOST_CHARACTERS];
        // The values that have the majority at the places, or NONE.
        final int[] majorities = new int[MOST_CHARACTERS];
        int places;
        boolean isFresh;

        int weightOf(int place, int value) {
            int index = place * VALUES + value;
            boolean exists = place >= 0 && place < MOST_CHARACTERS && value >= 0 && value < VALUES;
            return exists ? weights[index] : 0;
        }

        void recount(Symbology kind, int symbology, Scan[] scans, int scanCount) {
            places = supportedLength(symbology, scans, scanCount);
            if (places == 0) {
                places = kind.joinedLength(symbology, scans, scanCount);
            }
            for (int i = 0; i < weights.length; i++) {
                weights[i] = 0;
            }
            for (int i = 0; i < totals.length; i++) {
                totals[i] = 0;
            }
            for (int i = 0; i < scanCount; i++) {
                countVotes(scans[i].readings[symbology]);
            }
            for (int place = 0; place < MOST_CHARACTERS; place++) {
                majorities[place] = majorityAt(place);
            }
            isFresh = true;
        }

        private int supportedLength(int symbology, Scan[] scans, int scanCount) {
            for (int i = 0; i < supports.length; i++) {
                supports[i] = 0;
            }
            for (int i = 0; i < scanCount; i++) {
                Sequence whole = scans[i].readings[symbology].whole;
                if (whole.count > 0 && whole.count < supports.length) {
                    supports[whole.count] += 1 + whole.leastConfidence();
                }
            }
            int best = 0;
            for (int i = 1; i < supports.length; i++) {
                if (supports[i] > supports[best]) {
                    best = i;
                }
            }
            return best;
        }

        private void countVotes(Reading reading) {
            if (reading.whole.count == places) {
                addVotes(reading.whole, 0);
            }
            if (reading.head.count <= places) {
                addVotes(reading.head, 0);
            }
            if (reading.tail.count <= places) {
                addVotes(reading.tail, places - reading.tail.count);
            }
        }

        private void addVotes(Sequence characters, int from) {
            for (int i = 0; i < characters.count; i++) {
                int place = from + i;
                int index = place * VALUES + characters.values[i];
                if (place >= 0 && place < MOST_CHARACTERS && index >= 0 && index < weights.length) {
                    weights[index] += 1 + characters.confidences[i];
                    totals[place] += 1 + characters.confidences[i];
                }
            }
        }

        private int majorityAt(int place) {
            for (int value = 0; value < VALUES; value++) {
                if (2 * weightOf(place, value) > totals[place]) {
                    return value;
                }
            }
            return NONE;
        }

        int firstDoubt() {
            for (int place = 0; place < places; place++) {
                if (majorities[place] == NONE) {
                    return place;
                }
            }
            return NONE;
        }

        /** The number of places without a majority. */
        int doubts() {
            int doubts = 0;
            for (int place = 0; place < places; place++) {
                if (majorities[place] == NONE) {
                    doubts++;
                }
            }
            return doubts;
        }

        /** The least share of a voted character, in hundredths. */
        int share() {
            int least = 100;
            for (int place = 0; place < places; place++) {
                if (totals[place] > 0) {
                    int share = 100 * weightOf(place, majorities[place]) / totals[place];
                    least = Math.min(least, share);
                }
            }
            return least;
        }

        /** The number of characters that do not have the majority at their places. */
        int disagreements(Sequence whole) {
            int wrong = 0;
            for (int i = 0; i < whole.count; i++) {
                if (whole.values[i] != majorities[i]) {
                    wrong++;
                }
            }
            return wrong;
        }
    }
}
