import java.util.Random;

/** Random runs of calls: the engine must answer each one as Model does. */
public final class ModelTest {
    private static final int MOST_CALLS = 512;
    private static final String INNER = "0123456789-$:/.+";

    private final Random random;
    private final BarcodeEngine x = new BarcodeEngine();
    private final Model m = new Model();
    private final String[] codes = new String[3];
    private final StringBuilder run = new StringBuilder();
    private int calls;
    private final int habit;

    private ModelTest(long seed) {
        random = new Random(seed);
        habit = random.nextInt(6);
        for (int symbology = 0; symbology < 3; symbology++) {
            codes[symbology] = code(symbology);
        }
    }

    public static void main(String[] args) {
        int runs = args.length > 0 ? Integer.parseInt(args[0]) : 2500;
        for (int seed = 0; seed < runs && Checks.wrong < 5; seed++) {
            int before = Checks.wrong;
            ModelTest test = new ModelTest(seed);
            test.play();
            if (Checks.wrong > before) {
                System.out.println("the run, seed " + seed + ":\n" + test.run);
            }
        }
        Checks.end("ModelTest");
    }

    private static long outcome(Checks.Call call) {
        try {
            return call.answer();
        } catch (RuntimeException e) {
            Class<?> c = e.getClass();
            return c == IndexOutOfBoundsException.class ? 1L << 40
                : c == IllegalArgumentException.class ? 2L << 40
                : c == IllegalStateException.class ? 3L << 40
                : c == java.util.NoSuchElementException.class ? 4L << 40 : 5L << 40;
        }
    }

    private void ask(String what, Checks.Call engine, Checks.Call model) {
        if (calls < MOST_CALLS && Checks.wrong < 5) {
            calls++;
            run.append(what).append('\n');
            Checks.due(what, outcome(engine), outcome(model));
        }
    }

    private void play() {
        while (calls < MOST_CALLS) {
            int scans = x.scanCount();
            int kind = random.nextInt(12);
            if (scans < 4 && kind < 8 || kind < 2) {
                makeScan();
            } else if (kind < 6) {
                changeScan();
            }
            int questions = random.nextInt(8);
            for (int i = 0; i < questions; i++) {
                askReading();
                askVotes();
            }
        }
    }

    // ---- arguments

    private int few(int from, int to) {
        return from + random.nextInt(to - from + 1);
    }

    private int someScan() {
        int scans = x.scanCount();
        return random.nextInt(60) == 0 ? few(-2, 30) : scans == 0 ? 0 : random.nextInt(scans);
    }

    private int someSymbology() {
        return random.nextInt(60) == 0 ? few(-1, 4) : habit < 3 && random.nextInt(3) > 0 ? habit : few(0, 2);
    }

    private String code(int symbology) {
        int length = symbology == 0 ? 8 : symbology == 1 ? 2 * few(1, 7) : few(3, 16);
        StringBuilder code = new StringBuilder();
        int variety = random.nextInt(3) == 0 ? 2 : 16;
        for (int i = 0; i < length; i++) {
            if (symbology == 2 && (i == 0 || i == length - 1)) {
                code.append("ABCD".charAt(few(0, 3)));
            } else {
                code.append(INNER.charAt(random.nextInt(Math.min(variety, symbology == 2 ? 16 : 10))));
            }
        }
        return code.toString();
    }

    private String text(int symbology) {
        if (symbology < 0 || symbology > 2) {
            return "12345670";
        }
        StringBuilder code = new StringBuilder(random.nextInt(10) == 0 ? code(symbology) : codes[symbology]);
        if (random.nextInt(4) == 0) {
            int place = random.nextInt(code.length());
            boolean outer = symbology == 2 && (place == 0 || place == code.length() - 1);
            code.setCharAt(place, outer ? "ABCD".charAt(few(0, 3))
                : INNER.charAt(random.nextInt(symbology == 2 ? 16 : 10)));
        }
        if (random.nextInt(40) == 0) {
            code.setCharAt(random.nextInt(code.length()), (char) random.nextInt(256));
        }
        return code.toString();
    }

    // ---- scans

    private void putText(String text) {
        int[] four = new int[5];
        for (int i = 0; i < 20; i++) {
            int sign = i < text.length() ? text.charAt(i) : random.nextInt(256);
            four[i / 4] = four[i / 4] << 8 | sign & 255;
        }
        ask("append(" + four[0] + "," + four[1] + "," + four[2] + "," + four[3] + "," + four[4] + ") " + text,
            () -> x.append(four[0], four[1], four[2], four[3], four[4]),
            () -> m.append(four[0], four[1], four[2], four[3], four[4]));
    }

    private void makeScan() {
        if (random.nextInt(5) == 0) {
            makeRow();
            return;
        }
        int symbology = someSymbology();
        String text = text(symbology);
        putText(text);
        int less = random.nextInt(4) == 0 ? 1 : 0;
        if (random.nextInt(4) == 0) {
            askCheckCharacter(someSymbology(), random.nextInt(6) == 0 ? few(-1, 61) : text.length() - less);
        }
        int length = random.nextInt(30) == 0 ? few(-1, 61) : text.length();
        int module = random.nextInt(30) == 0 ? few(2, 42) : random.nextInt(4) == 0 ? few(4, 8) : few(9, 40);
        int spread = random.nextInt(30) == 0 ? few(-5, 5) : few(-3, 3);
        int seed = random.nextInt(3) == 0 ? 0 : random.nextInt();
        ask("print(" + symbology + "," + length + "," + module + "," + spread + "," + seed + ") " + text,
            () -> x.print(symbology, length, module, spread, seed),
            () -> m.print(symbology, length, module, spread, seed));
        if (habit % 2 == 1 && x.scanCount() > 0 && random.nextInt(20) > 0) {
            cutToPart(x.scanCount() - 1);
        }
    }

    private void cutToPart(int scan) {
        int last = x.widthCount(scan) - 1;
        int at = few(last / 4, last * 3 / 4) / 2 * 2;
        boolean tail = random.nextBoolean();
        int from = tail ? at : 0;
        int to = tail ? last : at;
        ask("cut(" + scan + "," + from + "," + to + ")", () -> x.cut(scan, from, to), () -> m.cut(scan, from, to));
    }

    private void askCheckCharacter(int symbology, int length) {
        ask("checkCharacter(" + symbology + "," + length + ")",
            () -> x.checkCharacter(symbology, length), () -> m.checkCharacter(symbology, length));
    }

    private void makeRow() {
        int factor = few(1, 20);
        StringBuilder row = new StringBuilder("q");
        int pieces = few(1, 3);
        for (int i = 0; i < pieces; i++) {
            row.append(random.nextInt(3) == 0 ? noise() : pieceOf(random.nextInt(3)));
            if (row.length() % 2 == 1) {
                row.append(few(1, 4));
            }
            row.append(random.nextInt(5) == 0 ? "4" : random.nextInt(3) == 0 ? "5" : "q");
        }
        int[] widths = new int[(row.length() + 5) / 6 * 6];
        for (int i = 0; i < widths.length && i < row.length(); i++) {
            int modules = row.charAt(i) == 'q' ? few(8, 20) : row.charAt(i) - '0';
            widths[i] = Math.max(1, modules * factor + (random.nextInt(4) == 0 ? few(-2, 2) * factor / 5 : 0));
        }
        for (int i = 0; i < widths.length; i += 6) {
            addWidths(widths, i);
        }
        ask("endScan()", () -> x.endScan(), () -> m.endScan());
    }

    private void addWidths(int[] w, int i) {
        if (random.nextInt(300) == 0) {
            w[i + random.nextInt(6)] = few(-1, 1) * few(9998, 10002);
        }
        ask("addWidths(" + w[i] + "," + w[i + 1] + "," + w[i + 2] + "," + w[i + 3] + "," + w[i + 4] + "," + w[i + 5] + ")",
            () -> x.addWidths(w[i], w[i + 1], w[i + 2], w[i + 3], w[i + 4], w[i + 5]),
            () -> m.addWidths(w[i], w[i + 1], w[i + 2], w[i + 3], w[i + 4], w[i + 5]));
    }

    private String noise() {
        StringBuilder noise = new StringBuilder();
        int count = few(3, 40);
        for (int i = 0; i < count; i++) {
            noise.append(random.nextInt(12) == 0 ? 'q' : "1111223334".charAt(random.nextInt(10)));
        }
        return noise.toString();
    }

    private String pieceOf(int symbology) {
        String modules = Model.modules(symbology, codes[symbology]);
        if (random.nextInt(2) == 0) {
            modules = new StringBuilder(modules).reverse().toString();
        }
        if (random.nextInt(3) == 0) {
            int from = random.nextInt(modules.length() / 2) / 2 * 2;
            modules = modules.substring(from);
        }
        return modules.length() > 60 && random.nextInt(2) == 0 ? modules.substring(0, 60) : modules;
    }

    private void changeScan() {
        int scan = someScan();
        int size = scan >= 0 && scan < x.scanCount() ? x.widthCount(scan) : 3;
        switch (random.nextInt(9)) {
            case 0:
                cutScan(scan, size);
                break;
            case 1:
                ask("reverse(" + scan + ")", () -> {
                    x.reverse(scan);
                    return 0;
                }, () -> {
                    m.reverse(scan);
                    return 0;
                });
                break;
            case 2:
                int amount = random.nextInt(9) == 0 ? few(-102, 102) : few(-4, 4);
                ask("smear(" + scan + "," + amount + ")", () -> x.smear(scan, amount), () -> m.smear(scan, amount));
                break;
            case 3:
                int other = someScan();
                ask("average(" + scan + "," + other + ")", () -> {
                    x.average(scan, other);
                    return 0;
                }, () -> {
                    m.average(scan, other);
                    return 0;
                });
                break;
            case 4:
                if (x.scanCount() > 6 || random.nextInt(4) == 0) {
                    ask("removeScan(" + scan + ")", () -> x.removeScan(scan), () -> m.removeScan(scan));
                }
                break;
            case 5:
                int symbology = someSymbology();
                boolean on = random.nextBoolean();
                ask("setCheck(" + symbology + "," + on + ")",
                    () -> x.setCheck(symbology, on) ? 1 : 0, () -> m.setCheck(symbology, on) ? 1 : 0);
                break;
            default:
                changeWidth(scan, size);
                break;
        }
    }

    private void cutScan(int scan, int size) {
        int a = random.nextInt(3) == 0 ? 0 : random.nextInt(size) / 2 * 2;
        int b = random.nextInt(3) == 0 ? size - 1 : few(a, size + 1) / 2 * 2;
        int from = random.nextInt(40) == 0 ? few(-2, size) : a;
        int to = random.nextInt(40) == 0 ? few(-2, size + 3) : b;
        ask("cut(" + scan + "," + from + "," + to + ")", () -> x.cut(scan, from, to), () -> m.cut(scan, from, to));
    }

    private void changeWidth(int scan, int size) {
        int index = random.nextInt(40) == 0 ? few(-1, 130) : random.nextInt(size);
        int now = scan >= 0 && scan < x.scanCount() && index >= 0 && index < size ? x.width(scan, index) : 7;
        int[] wishes = {now + few(-2, 2), now * few(1, 9) / few(1, 5), few(1, 120), now, few(0, 10001)};
        int width = wishes[random.nextInt(random.nextInt(9) == 0 ? 5 : 4)];
        ask("setWidth(" + scan + "," + index + "," + width + ")",
            () -> x.setWidth(scan, index, width), () -> m.setWidth(scan, index, width));
    }

    // ---- questions

    /** Mostly a scan from which a head or a tail is read, if there is one. */
    private int scanWithPart(int symbology, boolean tail) {
        int scan = someScan();
        for (int i = 0; i < 30 && symbology >= 0 && symbology < 3 && m.scanCount() > 0; i++) {
            if (scan >= 0 && scan < m.scanCount() && m.readPart(scan, symbology, tail) > 0) {
                return scan;
            }
            scan = random.nextInt(m.scanCount());
        }
        return scan;
    }

    private void askReading() {
        int s = someSymbology();
        boolean ofParts = random.nextInt(3) == 0;
        int a = ofParts ? scanWithPart(s, false) : someScan();
        int b = ofParts ? scanWithPart(s, true) : someScan();
        int place = random.nextInt(3) == 0 ? few(-1, 16) : few(0, 4);
        boolean tail = random.nextBoolean();
        String one = "(" + a + "," + s + ")";
        String two = "(" + a + "," + b + "," + s + ")";
        String placed = "(" + a + "," + s + "," + place + ")";
        switch (random.nextInt(17)) {
            case 0:
                ask("read" + one, () -> x.read(a, s), () -> m.read(a, s));
                break;
            case 1:
                ask("readPart" + one + tail, () -> x.readPart(a, s, tail), () -> m.readPart(a, s, tail));
                break;
            case 2:
                ask("character" + placed, () -> x.character(a, s, place), () -> m.character(a, s, place));
                break;
            case 3:
                ask("confidence" + placed, () -> x.confidence(a, s, place), () -> m.confidence(a, s, place));
                break;
            case 4:
                ask("partCharacter" + placed + tail, () -> x.partCharacter(a, s, tail, place),
                    () -> m.partCharacter(a, s, tail, place));
                break;
            case 5:
                ask("isReversed" + one, () -> x.isReversed(a, s) ? 1 : 0, () -> m.isReversed(a, s) ? 1 : 0);
                break;
            case 6:
                ask("agreement" + two, () -> x.agreement(a, b, s), () -> m.agreement(a, b, s));
                break;
            case 7:
                ask("overlap" + two, () -> x.overlap(a, b, s), () -> m.overlap(a, b, s));
                break;
            case 8:
                ask("module" + one, () -> x.module(a, s), () -> m.module(a, s));
                break;
            case 9:
                ask("spread" + one, () -> x.spread(a, s), () -> m.spread(a, s));
                break;
            case 10:
                ask("mergedLength" + two, () -> x.mergedLength(a, b, s), () -> m.mergedLength(a, b, s));
                break;
            case 11:
                ask("mergedCharacter" + two + place, () -> x.mergedCharacter(a, b, s, place),
                    () -> m.mergedCharacter(a, b, s, place));
                break;
            case 12:
                ask("bestScan(" + s + ")", () -> x.bestScan(s), () -> m.bestScan(s));
                break;
            case 13:
                ask("scanCount()", () -> x.scanCount(), () -> m.scanCount());
                break;
            case 14:
                ask("widthCount(" + a + ")", () -> x.widthCount(a), () -> m.widthCount(a));
                break;
            case 15:
                int index = few(-1, 129);
                ask("width(" + a + "," + index + ")", () -> x.width(a, index), () -> m.width(a, index));
                break;
            default:
                askCheckCharacter(s, few(-1, 17));
                break;
        }
    }

    private void askVotes() {
        int s = someSymbology();
        int place = random.nextInt(6) == 0 ? few(-1, 16) : few(0, 7);
        int[] characters = {-1, '0', few('0', '9'), "ABCD-$:/.+".charAt(few(0, 9)), few(-3, 300)};
        int character = characters[random.nextInt(5)];
        String placed = "(" + s + "," + place + ")";
        String one = "(" + s + ")";
        switch (random.nextInt(9)) {
            case 0:
                ask("length" + one, () -> x.length(s), () -> m.length(s));
                break;
            case 1:
                ask("weight" + placed + character, () -> x.weight(s, place, character),
                    () -> m.weight(s, place, character));
                break;
            case 2:
                ask("voted" + placed, () -> x.voted(s, place), () -> m.voted(s, place));
                break;
            case 3:
                ask("runnerUp" + placed, () -> x.runnerUp(s, place), () -> m.runnerUp(s, place));
                break;
            case 4:
                ask("problem" + one, () -> x.problem(s), () -> m.problem(s));
                break;
            case 5:
                ask("doubtful" + one, () -> x.doubtful(s), () -> m.doubtful(s));
                break;
            case 6:
                ask("repaired" + one, () -> x.repaired(s), () -> m.repaired(s));
                break;
            case 7:
                ask("winner()", () -> x.winner(), () -> m.winner());
                break;
            default:
                ask("worstScan" + one, () -> x.worstScan(s), () -> m.worstScan(s));
                break;
        }
    }
}
