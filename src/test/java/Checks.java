/** What the tests share: answers that are due, counted and told. */
final class Checks {
    static int wrong = 0;
    static int asked = 0;

    private static final long MOST_SECONDS = 600;

    static {
        Thread watch = new Thread(Checks::endAfterMostSeconds);
        watch.setDaemon(true);
        watch.start();
    }

    private Checks() {
    }

    /** A call that does not end is to fail its test, not to keep it waiting. */
    private static void endAfterMostSeconds() {
        try {
            Thread.sleep(1000 * MOST_SECONDS);
        } catch (InterruptedException e) {
            return;
        }
        System.out.println("a call does not end");
        Runtime.getRuntime().halt(1);
    }

    /** A call whose answer is tested. */
    interface Call {
        long answer();
    }

    static void due(String what, long got, long want) {
        asked++;
        if (got != want) {
            wrong++;
            System.out.println(what + " answered " + got + ", due is " + want);
        }
    }

    static void due(String what, boolean got, boolean want) {
        due(what, got ? 1L : 0L, want ? 1L : 0L);
    }

    /** Index, argument, state and element: the exceptions that the document names. */
    static void index(String what, Call call) {
        thrown(what, call, IndexOutOfBoundsException.class);
    }

    static void argument(String what, Call call) {
        thrown(what, call, IllegalArgumentException.class);
    }

    static void state(String what, Call call) {
        thrown(what, call, IllegalStateException.class);
    }

    static void element(String what, Call call) {
        thrown(what, call, java.util.NoSuchElementException.class);
    }

    private static void thrown(String what, Call call, Class<?> want) {
        asked++;
        Class<?> got = null;
        try {
            call.answer();
        } catch (RuntimeException e) {
            got = e.getClass();
        }
        if (got != want) {
            wrong++;
            System.out.println(what + " threw " + got + ", due is " + want);
        }
    }

    static void end(String test) {
        System.out.println(test + ": " + asked + " answers, " + wrong + " not as due");
        if (wrong != 0) {
            System.exit(1);
        }
    }

    // ---- an engine's scans

    /** Puts a text at the end of the buffer, filled up with blanks to 20 bytes. */
    static void put(BarcodeEngine x, String text) {
        int[] four = new int[5];
        for (int i = 0; i < 20; i++) {
            int sign = i < text.length() ? text.charAt(i) : ' ';
            four[i / 4] |= (sign & 255) << 24 - 8 * (i % 4);
        }
        x.append(four[0], four[1], four[2], four[3], four[4]);
    }

    static int print(BarcodeEngine x, int symbology, String text) {
        return print(x, symbology, text, 10, 0, 0);
    }

    static int print(BarcodeEngine x, int symbology, String text, int module, int spread, int seed) {
        put(x, text);
        return x.print(symbology, text.length(), module, spread, seed);
    }

    static int scan(BarcodeEngine x, int... widths) {
        for (int i = 0; i < widths.length; i += 6) {
            int[] six = new int[6];
            for (int k = 0; k < 6 && i + k < widths.length; k++) {
                six[k] = widths[i + k];
            }
            x.addWidths(six[0], six[1], six[2], six[3], six[4], six[5]);
        }
        return x.endScan();
    }

    /** A scan whose widths are the digits of a text times a factor; blanks don't count, q is 50. */
    static int scan(BarcodeEngine x, String digits, int factor) {
        String signs = digits.replace(" ", "");
        int[] widths = new int[signs.length()];
        for (int i = 0; i < widths.length; i++) {
            int sign = signs.charAt(i);
            widths[i] = (sign == 'q' ? 50 : sign - '0') * factor;
        }
        return scan(x, widths);
    }

    // A head of Interleaved 2 of 5 with these digits, a tail; a head of Codabar, a tail.

    static int head(BarcodeEngine x, String digits) {
        int scan = print(x, 1, digits);
        x.cut(scan, 0, x.widthCount(scan) - 5);
        return scan;
    }

    static int tail(BarcodeEngine x, String digits) {
        int scan = print(x, 1, digits);
        x.cut(scan, 4, x.widthCount(scan) - 1);
        return scan;
    }

    static int codabarHead(BarcodeEngine x, String text) {
        int scan = print(x, 2, text + "D");
        x.cut(scan, 0, x.widthCount(scan) - 9);
        return scan;
    }

    static int codabarTail(BarcodeEngine x, String text) {
        int scan = print(x, 2, "D" + text);
        x.cut(scan, 8, x.widthCount(scan) - 1);
        return scan;
    }

    static String whole(BarcodeEngine x, int scan, int symbology) {
        StringBuilder text = new StringBuilder();
        for (int i = 0; i < x.read(scan, symbology); i++) {
            text.append((char) x.character(scan, symbology, i));
        }
        return text.toString();
    }

    static String part(BarcodeEngine x, int scan, int symbology, boolean tail) {
        StringBuilder text = new StringBuilder();
        for (int i = 0; i < x.readPart(scan, symbology, tail); i++) {
            text.append((char) x.partCharacter(scan, symbology, tail, i));
        }
        return text.toString();
    }

    /** What is read from a scan: the whole code, or head~tail; with < in front if in reverse. */
    static String seen(BarcodeEngine x, int scan, int symbology) {
        String head = part(x, scan, symbology, false);
        String tail = part(x, scan, symbology, true);
        String parts = head.isEmpty() && tail.isEmpty() ? "" : head + "~" + tail;
        return (x.isReversed(scan, symbology) ? "<" : "") + whole(x, scan, symbology) + parts;
    }

    /** Asks what is read from a row of widths, told in units of 10. */
    static void sees(int symbology, String modules, String want) {
        if (modules.replace(" ", "").length() % 2 == 0) {
            same("row " + modules, "an even number of widths", want);
            return;
        }
        BarcodeEngine x = new BarcodeEngine();
        scan(x, modules, 10);
        same("row " + modules, seen(x, 0, symbology), want);
    }

    static String backwards(String modules) {
        return new StringBuilder(modules).reverse().toString();
    }

    /** The characters of the majorities, ? where there is none. */
    static String votes(BarcodeEngine x, int symbology) {
        StringBuilder text = new StringBuilder();
        for (int i = 0; i < x.length(symbology); i++) {
            int voted = x.voted(symbology, i);
            text.append(voted == BarcodeEngine.NONE ? '?' : (char) voted);
        }
        return text.toString();
    }

    /** Sets widths of a scan, from an index on. */
    static void set(BarcodeEngine x, int scan, int index, int... widths) {
        for (int i = 0; i < widths.length; i++) {
            x.setWidth(scan, index + i, widths[i]);
        }
    }

    static String widths(BarcodeEngine x, int scan) {
        StringBuilder text = new StringBuilder();
        for (int i = 0; i < x.widthCount(scan); i++) {
            text.append(i == 0 ? "" : " ").append(x.width(scan, i));
        }
        return text.toString();
    }

    static void same(String what, String got, String want) {
        asked++;
        if (!got.equals(want)) {
            wrong++;
            System.out.println(what + " answered \"" + got + "\", due is \"" + want + "\"");
        }
    }
}
