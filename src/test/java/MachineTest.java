import java.lang.management.ManagementFactory;
import java.util.Random;

/**
 * Any arguments in any state: a call throws nothing but what its line of the document names, and
 * throws it by itself. And calls make no objects, so that long runs stay small.
 */
public final class MachineTest {
    private static final int[] ODD = {Integer.MIN_VALUE, Integer.MIN_VALUE + 1, -10001, -101, -2, -1, 0, 1, 2, 3, 4,
        7, 8, 10, 16, 20, 23, 24, 40, 41, 60, 61, 100, 101, 128, 129, 9999, 10000, 10001, 65536 + 48,
        Integer.MAX_VALUE - 1, Integer.MAX_VALUE};
    private static final Class<?>[] NONE = {};
    private static final Class<?>[] INDEX = {IndexOutOfBoundsException.class};
    private static final Class<?>[] ARGUMENT = {IndexOutOfBoundsException.class, IllegalArgumentException.class};
    private static final Class<?>[] ELEMENT = {
        IndexOutOfBoundsException.class, java.util.NoSuchElementException.class};

    private final Random random;
    private final BarcodeEngine x = new BarcodeEngine();

    private MachineTest(long seed) {
        random = new Random(seed);
    }

    public static void main(String[] args) {
        for (int seed = 0; seed < 1500 && Checks.wrong < 10; seed++) {
            MachineTest test = new MachineTest(seed);
            for (int i = 0; i < 128; i++) {
                test.makeScan();
                test.changeScan();
                test.askReading();
                test.askVotes();
            }
        }
        callsMakeNothing();
        Checks.end("MachineTest");
    }

    private int odd() {
        return random.nextInt(3) == 0 ? ODD[random.nextInt(ODD.length)] : random.nextInt(4);
    }

    private void call(String what, Class<?>[] allowed, Checks.Call call) {
        Checks.asked++;
        try {
            call.answer();
        } catch (RuntimeException e) {
            boolean isAllowed = false;
            for (Class<?> c : allowed) {
                isAllowed |= e.getClass() == c;
            }
            StackTraceElement[] trace = e.getStackTrace();
            if (!isAllowed || !trace[0].getClassName().startsWith("BarcodeEngine")) {
                Checks.wrong++;
                System.out.println(what + " threw " + e + " at " + (trace.length > 0 ? trace[0] : "?"));
            }
        }
    }

    private void makeScan() {
        int a = odd();
        int b = odd();
        int c = odd();
        int d = odd();
        int e = odd();
        int f = odd();
        Class<?>[] state = {IllegalStateException.class};
        switch (random.nextInt(5)) {
            case 0:
                call("append", state, () -> x.append(a, b, c, d, e));
                break;
            case 1:
                String[] texts = {"12345670", "1234", "A1:B", "A12345678901234D", "12345678901234"};
                String text = texts[random.nextInt(5)];
                call("append", state, () -> {
                    Checks.put(x, text);
                    return 0;
                });
                int module = random.nextBoolean() ? a : 4 + random.nextInt(37);
                int length = random.nextInt(4) == 0 ? b : text.length();
                Class<?>[] all = {IndexOutOfBoundsException.class, IllegalArgumentException.class,
                    IllegalStateException.class};
                call("checkCharacter", ARGUMENT, () -> x.checkCharacter(c, length));
                call("print", all, () -> x.print(c, length, module, d, e));
                break;
            default:
                Class<?>[] two = {IllegalArgumentException.class, IllegalStateException.class};
                call("addWidths", two, () -> x.addWidths(a & 0x3fff, b, c, d, e, f));
                call("endScan", state, () -> x.endScan());
                break;
        }
        call("scanCount", NONE, () -> x.scanCount());
    }

    private void changeScan() {
        int a = odd();
        int b = odd();
        int c = odd();
        switch (random.nextInt(12)) {
            case 0:
                call("removeScan", INDEX, () -> x.removeScan(a));
                break;
            case 1:
                call("setWidth", ARGUMENT, () -> x.setWidth(a, b, c));
                break;
            case 2:
                call("cut", ARGUMENT, () -> x.cut(a, b, c));
                break;
            case 3:
                call("smear", ARGUMENT, () -> x.smear(a, b));
                break;
            case 4:
                call("reverse", INDEX, () -> {
                    x.reverse(a);
                    return 0;
                });
                break;
            case 5:
                call("average", ARGUMENT, () -> {
                    x.average(a, b);
                    return 0;
                });
                break;
            case 6:
                call("setCheck", INDEX, () -> x.setCheck(a, b > 0) ? 1 : 0);
                break;
            default:
                call("width", INDEX, () -> x.width(a, b));
                call("widthCount", INDEX, () -> x.widthCount(a));
                break;
        }
    }

    private void askReading() {
        int a = odd();
        int b = odd();
        int c = odd();
        int d = odd();
        boolean tail = random.nextBoolean();
        call("read", INDEX, () -> x.read(a, b));
        call("readPart", INDEX, () -> x.readPart(a, b, tail));
        call("character", INDEX, () -> x.character(a, b, c));
        call("confidence", INDEX, () -> x.confidence(a, b, c));
        call("partCharacter", INDEX, () -> x.partCharacter(a, b, tail, c));
        call("isReversed", INDEX, () -> x.isReversed(a, b) ? 1 : 0);
        call("agreement", INDEX, () -> x.agreement(a, b, c));
        call("overlap", INDEX, () -> x.overlap(a, b, c));
        call("module", ELEMENT, () -> x.module(a, b));
        call("spread", ELEMENT, () -> x.spread(a, b));
        call("mergedLength", INDEX, () -> x.mergedLength(a, b, c));
        call("mergedCharacter", INDEX, () -> x.mergedCharacter(a, b, c, d));
        call("bestScan", ELEMENT, () -> x.bestScan(a));
    }

    private void askVotes() {
        int a = odd();
        int b = odd();
        int c = odd();
        Class<?>[] all = {IndexOutOfBoundsException.class, IllegalStateException.class,
            java.util.NoSuchElementException.class};
        call("length", INDEX, () -> x.length(a));
        call("weight", INDEX, () -> x.weight(a, b, c));
        call("voted", INDEX, () -> x.voted(a, b));
        call("runnerUp", INDEX, () -> x.runnerUp(a, b));
        call("problem", INDEX, () -> x.problem(a));
        call("doubtful", INDEX, () -> x.doubtful(a));
        call("repaired", all, () -> x.repaired(a));
        call("winner", NONE, () -> x.winner());
        call("worstScan", ELEMENT, () -> x.worstScan(a));
    }

    private static void callsMakeNothing() {
        com.sun.management.ThreadMXBean threads =
            (com.sun.management.ThreadMXBean) ManagementFactory.getThreadMXBean();
        long id = Thread.currentThread().getId();
        long most = 0;
        for (int round = 0; round < 3; round++) {
            BarcodeEngine y = new BarcodeEngine();
            long before = threads.getThreadAllocatedBytes(id);
            useWithoutExceptions(y);
            most = threads.getThreadAllocatedBytes(id) - before;
        }
        Checks.due("few bytes are made: " + most, most < 1000, true);
    }

    private static void useWithoutExceptions(BarcodeEngine y) {
        for (int i = 0; i < 24; i++) {
            y.append(0x31323334, 0x35363730, 0, 0, 0);
            y.print(i % 2, 8, 10, 0, i);
        }
        for (int i = 0; i < 24; i++) {
            y.reverse(i);
            y.smear(i, 1);
            y.average(i, i);
            y.setWidth(i, 3, 11);
            for (int s = 0; s < 3; s++) {
                y.read(i, s);
                y.agreement(i, 0, s);
                y.mergedLength(0, i, s);
                y.overlap(i, 1, s);
                y.length(s);
                y.problem(s);
            }
            y.winner();
        }
    }
}
