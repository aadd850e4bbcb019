import java.util.ArrayList;
import java.util.Collections;
import java.util.HashMap;
import java.util.List;
import java.util.Map;
import java.util.NoSuchElementException;
import java.util.TreeMap;

/**
 * The document once more, as plainly as it can be said: codes are texts, widths are lists, and
 * nothing is kept but the scans. ModelTest lets it and the engine answer the same calls.
 */
final class Model {
    static final int NONE = -1;
    private static final String[] EAN = {
        "3211", "2221", "2122", "1411", "1132", "1231", "1114", "1312", "1213", "3112"};
    private static final String[] PAIRS = {
        "11331", "31113", "13113", "33111", "11313", "31311", "13311", "11133", "31131", "13131"};
    private static final String CODABAR =
        "0 nnnnnww, 1 nnnnwwn, 2 nnnwnnw, 3 wwnnnnn, 4 nnwnnwn, 5 wnnnnwn, 6 nwnnnnw, 7 nwnnwnn, "
        + "8 nwwnnnn, 9 wnnwnnn, - nnnwwnn, $ nnwwnnn, : wnnnwnw, / wnwnnnw, . wnwnwnn, + nnwnwnw, "
        + "A nnwwnwn, B nwnwnnw, C nnnwnww, D nnnwwwn";
    private static final String VALUES = "0123456789-$:/.+ABCD";

    private final List<List<Integer>> scans = new ArrayList<>();
    private String buffer = "";
    private final List<Integer> pending = new ArrayList<>();
    private final boolean[] check = {true, false, false};
    // What rows of widths say, for each symbology, so that it is not found again and again.
    private final List<Map<List<Integer>, Seen>> known =
        List.of(new HashMap<>(), new HashMap<>(), new HashMap<>());

    // ---- codes

    private static final Map<Character, String> CODABAR_WIDTHS = codabarWidths();

    private static Map<Character, String> codabarWidths() {
        Map<Character, String> widths = new HashMap<>();
        for (String entry : CODABAR.split(", ")) {
            widths.put(entry.charAt(0), entry.substring(2).replace('n', '1').replace('w', '3'));
        }
        return widths;
    }

    private static String codabar(char c) {
        return CODABAR_WIDTHS.get(c);
    }

    static String modules(int symbology, String code) {
        StringBuilder all = new StringBuilder();
        if (symbology == 0) {
            all.append("111");
            for (int i = 0; i < 8; i++) {
                all.append(i == 4 ? "11111" : "").append(EAN[code.charAt(i) - '0']);
            }
            return all.append("111").toString();
        }
        if (symbology == 1) {
            all.append("1111");
            for (int i = 0; i < code.length(); i += 2) {
                for (int k = 0; k < 5; k++) {
                    all.append(PAIRS[code.charAt(i) - '0'].charAt(k));
                    all.append(PAIRS[code.charAt(i + 1) - '0'].charAt(k));
                }
            }
            return all.append("311").toString();
        }
        for (int i = 0; i < code.length(); i++) {
            all.append(i == 0 ? "" : "1").append(codabar(code.charAt(i)));
        }
        return all.toString();
    }

    private static boolean isCode(int symbology, String code) {
        if (symbology == 0) {
            return code.matches("[0-9]{8}");
        }
        if (symbology == 1) {
            return code.matches("([0-9][0-9]){1,7}");
        }
        return code.matches("[A-D][-0-9$:/.+]{1,14}[A-D]");
    }

    private static boolean isRight(int symbology, String code) {
        int sum = 0;
        for (int i = 0; i < code.length(); i++) {
            int value = VALUES.indexOf(code.charAt(i));
            sum += symbology < 2 && i % 2 == 0 ? 3 * value : value;
        }
        return sum % (symbology < 2 ? 10 : 16) == 0;
    }

    private static boolean canBeLength(int symbology, int n) {
        return symbology == 0 ? n == 8
            : symbology == 1 ? n >= 2 && n <= 14 && n % 2 == 0 : n >= 3 && n <= 16;
    }

    // ---- readings

    private static final class Seen {
        String whole = "";
        String head = "";
        String tail = "";
        List<Integer> wholeSure = new ArrayList<>();
        List<Integer> headSure = new ArrayList<>();
        List<Integer> tailSure = new ArrayList<>();
        boolean reversed;
        List<Integer> bars = new ArrayList<>();
        List<Integer> all = new ArrayList<>();
    }

    /** A character with its confidence. */
    private record Mark(char c, int sure) {
    }

    private static int round(int numerator, int denominator) {
        int low = numerator / denominator;
        return 2 * (numerator - low * denominator) >= denominator ? low + 1 : low;
    }

    private static Mark eanDigit(List<Integer> w) {
        int a = w.get(0);
        int b = w.get(1);
        int c = w.get(2);
        int s = a + b + c + w.get(3);
        int e = round(7 * (a + b), s);
        int f = round(7 * (b + c), s);
        boolean much = 7 * (a + c) >= 3 * s;
        String key = e + " " + f;
        String digit = switch (key) {
            case "5 3" -> "0";
            case "5 5" -> "3";
            case "2 4" -> "4";
            case "3 5" -> "5";
            case "2 2" -> "6";
            case "4 2" -> "9";
            case "4 4" -> much ? "1" : "7";
            case "3 3" -> much ? "2" : "8";
            default -> "";
        };
        if (digit.isEmpty()) {
            return null;
        }
        int r = Math.max(Math.abs(7 * (a + b) - e * s), Math.abs(7 * (b + c) - f * s));
        return new Mark(digit.charAt(0), 100 - 200 * r / s);
    }

    private static Mark narrowWide(List<Integer> w, boolean pair) {
        int lo = Collections.min(w);
        int hi = Collections.max(w);
        if (2 * hi < 3 * lo) {
            return null;
        }
        StringBuilder shape = new StringBuilder();
        int v = Integer.MAX_VALUE;
        int u = 0;
        for (int x : w) {
            if (2 * x > lo + hi) {
                shape.append('3');
                v = Math.min(v, x);
            } else {
                shape.append('1');
                u = Math.max(u, x);
            }
        }
        int sure = Math.min(100, 150 * (v - u) / v);
        for (char c : VALUES.toCharArray()) {
            if (pair ? c <= '9' && c >= '0' && PAIRS[c - '0'].contentEquals(shape)
                    : codabar(c).contentEquals(shape)) {
                return new Mark(c, sure);
            }
        }
        return null;
    }

    private static boolean exists(List<Integer> w, int from, int to) {
        return from >= 0 && to < w.size();
    }

    private static boolean even(List<Integer> w) {
        return Collections.max(w) <= 2 * Collections.min(w);
    }

    private static boolean quiet(int space, List<Integer> of) {
        return space >= 5 * Collections.min(of);
    }

    private static boolean isLetter(Mark m) {
        return m != null && m.c >= 'A';
    }

    /** The marks of one digit, pair or character that begins at an index; null if it can't be read. */
    private static List<Mark> group(int symbology, List<Integer> w, int at) {
        int count = symbology == 0 ? 4 : symbology == 1 ? 10 : 7;
        if (!exists(w, at, at + count - 1)) {
            return null;
        }
        if (symbology == 0) {
            Mark m = eanDigit(w.subList(at, at + 4));
            return m == null ? null : List.of(m);
        }
        if (symbology == 2) {
            Mark m = narrowWide(w.subList(at, at + 7), false);
            return m == null ? null : List.of(m);
        }
        List<Integer> bars = new ArrayList<>();
        List<Integer> spaces = new ArrayList<>();
        for (int i = 0; i < 10; i++) {
            (i % 2 == 0 ? bars : spaces).add(w.get(at + i));
        }
        Mark first = narrowWide(bars, true);
        Mark second = narrowWide(spaces, true);
        return first == null || second == null ? null : List.of(first, second);
    }

    private static boolean begins(int symbology, List<Integer> w, int bar) {
        int count = symbology == 0 ? 3 : symbology == 1 ? 4 : 7;
        if (!exists(w, bar, bar + count - 1)) {
            return false;
        }
        List<Integer> start = w.subList(bar, bar + count);
        boolean good = symbology == 2 ? isLetter(narrowWide(start, false)) : even(start);
        return good && quiet(w.get(bar - 1), start);
    }

    private static boolean ends(int symbology, List<Integer> w, int bar) {
        int count = symbology == 2 ? 7 : 3;
        if (!exists(w, bar - count + 1, bar + 1)) {
            return false;
        }
        List<Integer> stop = w.subList(bar - count + 1, bar + 1);
        boolean good;
        if (symbology == 0) {
            good = even(stop);
        } else if (symbology == 1) {
            int x = stop.get(0);
            good = 2 * x >= 3 * stop.get(1) && 2 * x >= 3 * stop.get(2);
        } else {
            good = isLetter(narrowWide(stop, false));
        }
        return good && quiet(w.get(bar + 1), stop);
    }

    /** All marks from a beginning to an end, or null; the index behind it is put into behind[0]. */
    private static List<Mark> wholeFrom(int symbology, List<Integer> w, int bar, int[] behind) {
        List<Mark> marks = new ArrayList<>();
        int at = bar;
        if (symbology == 0) {
            at += 3;
            for (int i = 0; i < 8; i++) {
                if (i == 4) {
                    if (!exists(w, at, at + 4) || !even(w.subList(at, at + 5))) {
                        return null;
                    }
                    at += 5;
                }
                List<Mark> digit = group(0, w, at);
                if (digit == null) {
                    return null;
                }
                marks.addAll(digit);
                at += 4;
            }
            behind[0] = at + 3;
            return ends(0, w, at + 2) ? marks : null;
        }
        if (symbology == 1) {
            at += 4;
            for (int pairs = 1; pairs <= 7; pairs++) {
                List<Mark> pair = group(1, w, at);
                if (pair == null) {
                    return null;
                }
                marks.addAll(pair);
                at += 10;
                if (ends(1, w, at + 2)) {
                    behind[0] = at + 3;
                    return marks;
                }
            }
            return null;
        }
        while (true) {
            List<Mark> character = group(2, w, at);
            if (character == null) {
                return null;
            }
            marks.addAll(character);
            at += 8;
            if (marks.size() > 1 && isLetter(character.get(0))) {
                behind[0] = at - 1;
                return marks.size() >= 3 && marks.size() <= 16 && ends(2, w, at - 2) ? marks : null;
            }
        }
    }

    private static List<Mark> headFrom(int symbology, List<Integer> w, int bar) {
        List<Mark> marks = new ArrayList<>();
        int at = bar + 3;
        if (symbology == 1) {
            at = bar + 4;
        } else if (symbology == 2) {
            marks.addAll(group(2, w, bar));
            at = bar + 8;
        }
        int most = symbology == 0 ? 4 : symbology == 1 ? 14 : 15;
        while (marks.size() < most) {
            List<Mark> next = group(symbology, w, at);
            if (next == null || isLetter(next.get(0))) {
                break;
            }
            marks.addAll(next);
            at += symbology == 0 ? 4 : symbology == 1 ? 10 : 8;
        }
        return marks;
    }

    private static List<Mark> tailTo(int symbology, List<Integer> w, int bar) {
        List<Mark> marks = new ArrayList<>();
        int at = bar - 6;
        if (symbology == 1) {
            at = bar - 12;
        } else if (symbology == 2) {
            marks.addAll(group(2, w, bar - 6));
            at = bar - 14;
        }
        int most = symbology == 0 ? 4 : symbology == 1 ? 14 : 15;
        while (marks.size() < most) {
            List<Mark> next = group(symbology, w, at);
            if (next == null || isLetter(next.get(0))) {
                break;
            }
            marks.addAll(0, next);
            at -= symbology == 0 ? 4 : symbology == 1 ? 10 : 8;
        }
        return marks;
    }

    private static boolean seeWhole(int symbology, List<Integer> w, Seen seen) {
        for (int bar = 1; bar < w.size(); bar += 2) {
            int[] behind = new int[1];
            List<Mark> marks = begins(symbology, w, bar) ? wholeFrom(symbology, w, bar, behind) : null;
            if (marks != null) {
                for (Mark m : marks) {
                    seen.whole += m.c;
                    seen.wholeSure.add(m.sure);
                }
                for (int i = bar; i < behind[0]; i++) {
                    seen.all.add(w.get(i));
                    if (i % 2 == 1) {
                        seen.bars.add(w.get(i));
                    }
                }
                return true;
            }
        }
        return false;
    }

    private static boolean seeParts(int symbology, List<Integer> w, Seen seen) {
        for (int bar = 1; bar < w.size() && seen.head.isEmpty(); bar += 2) {
            List<Mark> marks = begins(symbology, w, bar) ? headFrom(symbology, w, bar) : List.of();
            for (Mark m : marks.size() >= 2 ? marks : List.<Mark>of()) {
                seen.head += m.c;
                seen.headSure.add(m.sure);
            }
        }
        for (int bar = w.size() - 2; bar > 0 && seen.tail.isEmpty(); bar -= 2) {
            List<Mark> marks = ends(symbology, w, bar) ? tailTo(symbology, w, bar) : List.of();
            for (Mark m : marks.size() >= 2 ? marks : List.<Mark>of()) {
                seen.tail += m.c;
                seen.tailSure.add(m.sure);
            }
        }
        return !seen.head.isEmpty() || !seen.tail.isEmpty();
    }

    private Seen see(int scan, int symbology) {
        needScan(scan);
        needSymbology(symbology);
        List<Integer> w = scans.get(scan);
        return known.get(symbology).computeIfAbsent(new ArrayList<>(w), same -> see(symbology, same));
    }

    private static Seen see(int symbology, List<Integer> w) {
        Seen seen = new Seen();
        List<Integer> back = new ArrayList<>(w);
        Collections.reverse(back);
        if (seeWhole(symbology, w, seen)) {
            return seen;
        }
        if (seeWhole(symbology, back, seen)) {
            seen.reversed = true;
        } else if (!seeParts(symbology, w, seen) && seeParts(symbology, back, seen)) {
            seen.reversed = true;
        }
        return seen;
    }

    private void needScan(int scan) {
        if (scan < 0 || scan >= scans.size()) {
            throw new IndexOutOfBoundsException();
        }
    }

    private static void needSymbology(int symbology) {
        if (symbology < 0 || symbology > 2) {
            throw new IndexOutOfBoundsException();
        }
    }

    private static void needPlace(int place, int count) {
        if (place < 0 || place >= count) {
            throw new IndexOutOfBoundsException();
        }
    }

    // ---- the calls: scans

    int append(int a, int b, int c, int d, int e) {
        if (buffer.length() + 20 > 60) {
            throw new IllegalStateException();
        }
        for (int four : new int[] {a, b, c, d, e}) {
            for (byte one : java.nio.ByteBuffer.allocate(4).putInt(four).array()) {
                buffer += (char) (one & 255);
            }
        }
        return buffer.length();
    }

    int print(int symbology, int length, int module, int spread, int seed) {
        needSymbology(symbology);
        if (length < 0 || length > buffer.length() || module < 4 || module > 40
                || spread < -3 || spread > 3 || !isCode(symbology, buffer.substring(0, length))) {
            throw new IllegalArgumentException();
        }
        if (scans.size() == 24) {
            throw new IllegalStateException();
        }
        List<Integer> row = new ArrayList<>();
        row.add(10 * module);
        int state = seed;
        boolean bar = true;
        for (char c : modules(symbology, buffer.substring(0, length)).toCharArray()) {
            int noise = 0;
            if (seed != 0) {
                state = 1103515245 * state + 12345;
                noise = (state >>> 16) % 3 - 1;
            }
            row.add(Math.max(1, (c - '0') * module + (bar ? spread : -spread) + noise));
            bar = !bar;
        }
        row.add(10 * module);
        scans.add(row);
        buffer = "";
        return scans.size() - 1;
    }

    int checkCharacter(int symbology, int length) {
        needSymbology(symbology);
        if (length < 0 || length > buffer.length()) {
            throw new IllegalArgumentException();
        }
        String text = buffer.substring(0, length);
        int gap = symbology == 2 ? Math.max(0, length - 1) : length;
        for (char c : (symbology == 2 ? "0123456789-$:/.+" : "0123456789").toCharArray()) {
            String code = text.substring(0, gap) + c + text.substring(gap);
            if (isCode(symbology, code) && isRight(symbology, code)) {
                return c;
            }
        }
        throw new IllegalArgumentException();
    }

    int addWidths(int a, int b, int c, int d, int e, int f) {
        List<Integer> added = new ArrayList<>();
        boolean open = true;
        for (int w : new int[] {a, b, c, d, e, f}) {
            if (w < 0 || w > 10000) {
                throw new IllegalArgumentException();
            }
            open = open && w != 0;
            if (open) {
                added.add(w);
            }
        }
        if (pending.size() + added.size() > 129) {
            throw new IllegalStateException();
        }
        pending.addAll(added);
        return pending.size();
    }

    int endScan() {
        if (pending.size() < 3 || pending.size() % 2 == 0 || scans.size() == 24) {
            throw new IllegalStateException();
        }
        scans.add(new ArrayList<>(pending));
        pending.clear();
        return scans.size() - 1;
    }

    int scanCount() {
        return scans.size();
    }

    int widthCount(int scan) {
        needScan(scan);
        return scans.get(scan).size();
    }

    int width(int scan, int index) {
        needScan(scan);
        needPlace(index, scans.get(scan).size());
        return scans.get(scan).get(index);
    }

    int setWidth(int scan, int index, int width) {
        needScan(scan);
        needPlace(index, scans.get(scan).size());
        if (width < 1 || width > 10000) {
            throw new IllegalArgumentException();
        }
        return scans.get(scan).set(index, width);
    }

    int cut(int scan, int from, int to) {
        needScan(scan);
        needPlace(from, scans.get(scan).size());
        needPlace(to, scans.get(scan).size());
        if (from % 2 == 1 || to % 2 == 1 || to < from + 2) {
            throw new IllegalArgumentException();
        }
        scans.set(scan, new ArrayList<>(scans.get(scan).subList(from, to + 1)));
        return to - from + 1;
    }

    void reverse(int scan) {
        needScan(scan);
        Collections.reverse(scans.get(scan));
    }

    int smear(int scan, int amount) {
        needScan(scan);
        if (Math.abs((long) amount) > 100) {
            throw new IllegalArgumentException();
        }
        List<Integer> w = scans.get(scan);
        int limited = 0;
        for (int i = 1; i < w.size() - 1; i++) {
            int wish = i % 2 == 1 ? w.get(i) + amount : w.get(i) - amount;
            if (wish < 1 || wish > 10000) {
                limited++;
            }
            w.set(i, wish < 1 ? 1 : wish > 10000 ? 10000 : wish);
        }
        return limited;
    }

    void average(int scan, int other) {
        needScan(scan);
        needScan(other);
        List<Integer> w = scans.get(scan);
        List<Integer> o = scans.get(other);
        if (w.size() != o.size()) {
            throw new IllegalArgumentException();
        }
        for (int i = 0; i < w.size(); i++) {
            w.set(i, round(w.get(i) + o.get(i), 2));
        }
    }

    int removeScan(int scan) {
        needScan(scan);
        scans.remove(scan);
        return scans.size();
    }

    // ---- the calls: readings

    int read(int scan, int symbology) {
        return see(scan, symbology).whole.length();
    }

    private String part(int scan, int symbology, boolean tail) {
        Seen seen = see(scan, symbology);
        return tail ? seen.tail : seen.head;
    }

    int readPart(int scan, int symbology, boolean tail) {
        return part(scan, symbology, tail).length();
    }

    int character(int scan, int symbology, int place) {
        String whole = see(scan, symbology).whole;
        needPlace(place, whole.length());
        return whole.charAt(place);
    }

    int confidence(int scan, int symbology, int place) {
        Seen seen = see(scan, symbology);
        needPlace(place, seen.whole.length());
        return seen.wholeSure.get(place);
    }

    int partCharacter(int scan, int symbology, boolean tail, int place) {
        String part = part(scan, symbology, tail);
        needPlace(place, part.length());
        return part.charAt(place);
    }

    boolean isReversed(int scan, int symbology) {
        return see(scan, symbology).reversed;
    }

    int agreement(int scan, int other, int symbology) {
        String a = see(scan, symbology).whole;
        String b = see(other, symbology).whole;
        if (a.isEmpty() || b.isEmpty() || a.length() != b.length()) {
            return NONE;
        }
        int same = 0;
        for (int i = 0; i < a.length(); i++) {
            same += a.charAt(i) == b.charAt(i) ? 1 : 0;
        }
        return same;
    }

    int overlap(int head, int tail, int symbology) {
        String h = see(head, symbology).head;
        String t = see(tail, symbology).tail;
        if (h.isEmpty() || t.isEmpty()) {
            return NONE;
        }
        int greatest = 0;
        for (int o = 0; o <= h.length() && o <= t.length(); o++) {
            if (h.endsWith(t.substring(0, o))) {
                greatest = o;
            }
        }
        return greatest;
    }

    private static int sum(List<Integer> numbers) {
        int sum = 0;
        for (int n : numbers) {
            sum += n;
        }
        return sum;
    }

    int module(int scan, int symbology) {
        Seen seen = see(scan, symbology);
        if (seen.whole.isEmpty()) {
            throw new NoSuchElementException();
        }
        int t = 0;
        for (char c : modules(symbology, seen.whole).toCharArray()) {
            t += c - '0';
        }
        return 100 * sum(seen.all) / t;
    }

    int spread(int scan, int symbology) {
        Seen seen = see(scan, symbology);
        if (seen.whole.isEmpty()) {
            throw new NoSuchElementException();
        }
        long t = 0;
        long u = 0;
        String modules = modules(symbology, seen.whole);
        for (int i = 0; i < modules.length(); i++) {
            t += modules.charAt(i) - '0';
            u += i % 2 == 0 ? modules.charAt(i) - '0' : 0;
        }
        long above = 100 * (sum(seen.bars) * t - sum(seen.all) * u);
        long below = seen.bars.size() * t;
        long quotient = above / below;
        return (int) (quotient * below > above ? quotient - 1 : quotient);
    }

    private String merged(int head, int tail, int symbology) {
        String h = see(head, symbology).head;
        String t = see(tail, symbology).tail;
        return merged(symbology, h, t);
    }

    private static String merged(int symbology, String h, String t) {
        if (symbology == 0) {
            return h.length() == 4 && t.length() == 4 ? h + t : "";
        }
        int o = seam(symbology, h, t);
        return o == 0 ? "" : h + t.substring(o);
    }

    private static int seam(int symbology, String h, String t) {
        int greatest = 0;
        for (int o = 2; o <= h.length() && o <= t.length(); o++) {
            boolean fits = canBeLength(symbology, h.length() + t.length() - o);
            if (fits && h.substring(h.length() - o).equals(t.substring(0, o))) {
                greatest = o;
            }
        }
        return greatest;
    }

    int mergedLength(int head, int tail, int symbology) {
        return merged(head, tail, symbology).length();
    }

    int mergedCharacter(int head, int tail, int symbology, int place) {
        String code = merged(head, tail, symbology);
        needPlace(place, code.length());
        return code.charAt(place);
    }

    int bestScan(int symbology) {
        needSymbology(symbology);
        int best = NONE;
        for (int i = scans.size() - 1; i >= 0; i--) {
            List<Integer> sure = see(i, symbology).wholeSure;
            if (!sure.isEmpty() && (best == NONE
                    || Collections.min(sure) >= Collections.min(see(best, symbology).wholeSure))) {
                best = i;
            }
        }
        if (best == NONE) {
            throw new NoSuchElementException();
        }
        return best;
    }

    // ---- the calls: votes

    int length(int symbology) {
        needSymbology(symbology);
        TreeMap<Integer, Integer> support = new TreeMap<>();
        boolean head = false;
        boolean tail = false;
        List<Seen> all = new ArrayList<>();
        for (int i = 0; i < scans.size(); i++) {
            Seen seen = see(i, symbology);
            all.add(seen);
            if (!seen.whole.isEmpty()) {
                support.merge(seen.whole.length(), 1 + Collections.min(seen.wholeSure), Integer::sum);
            }
            head |= !seen.head.isEmpty();
            tail |= !seen.tail.isEmpty();
        }
        if (!support.isEmpty()) {
            int best = 0;
            for (int length : support.keySet()) {
                best = best == 0 || support.get(length) > support.get(best) ? length : best;
            }
            return best;
        }
        if (symbology == 0) {
            return head && tail ? 8 : 0;
        }
        int greatest = 0;
        int length = 0;
        for (int i = 0; i < scans.size(); i++) {
            for (int j = 0; j < scans.size(); j++) {
                String h = all.get(i).head;
                String t = all.get(j).tail;
                int o = i == j ? 0 : seam(symbology, h, t);
                if (o > greatest) {
                    greatest = o;
                    length = h.length() + t.length() - o;
                }
            }
        }
        return length;
    }

    private List<TreeMap<Character, Integer>> votes(int symbology) {
        int length = length(symbology);
        List<TreeMap<Character, Integer>> votes = new ArrayList<>();
        for (int i = 0; i < length; i++) {
            votes.add(new TreeMap<>());
        }
        for (int i = 0; i < scans.size(); i++) {
            Seen seen = see(i, symbology);
            if (seen.whole.length() == length) {
                vote(votes, seen.whole, seen.wholeSure, 0);
            }
            if (seen.head.length() <= length) {
                vote(votes, seen.head, seen.headSure, 0);
            }
            if (seen.tail.length() <= length) {
                vote(votes, seen.tail, seen.tailSure, length - seen.tail.length());
            }
        }
        return votes;
    }

    private static void vote(List<TreeMap<Character, Integer>> votes, String text,
            List<Integer> sure, int from) {
        for (int i = 0; i < text.length(); i++) {
            votes.get(from + i).merge(text.charAt(i), 1 + sure.get(i), Integer::sum);
        }
    }

    private static int all(TreeMap<Character, Integer> votes) {
        return sum(new ArrayList<>(votes.values()));
    }

    private static int majority(TreeMap<Character, Integer> votes) {
        for (char c : votes.keySet()) {
            if (2 * votes.get(c) > all(votes)) {
                return c;
            }
        }
        return NONE;
    }

    int weight(int symbology, int place, int character) {
        List<TreeMap<Character, Integer>> votes = votes(symbology);
        needPlace(place, votes.size());
        if (character == NONE) {
            return all(votes.get(place));
        }
        for (char c : votes.get(place).keySet()) {
            if (c == character) {
                return votes.get(place).get(c);
            }
        }
        return 0;
    }

    int voted(int symbology, int place) {
        List<TreeMap<Character, Integer>> votes = votes(symbology);
        needPlace(place, votes.size());
        return majority(votes.get(place));
    }

    int runnerUp(int symbology, int place) {
        List<TreeMap<Character, Integer>> votes = votes(symbology);
        needPlace(place, votes.size());
        TreeMap<Character, Integer> here = votes.get(place);
        List<Character> order = new ArrayList<>(here.keySet());
        order.sort((x, y) -> here.get(x).equals(here.get(y)) ? x - y : here.get(y) - here.get(x));
        return order.size() < 2 ? NONE : order.get(1);
    }

    private List<Integer> majorities(int symbology) {
        List<Integer> majorities = new ArrayList<>();
        for (TreeMap<Character, Integer> votes : votes(symbology)) {
            majorities.add(majority(votes));
        }
        return majorities;
    }

    private static String text(List<Integer> characters) {
        StringBuilder text = new StringBuilder();
        for (int c : characters) {
            text.append((char) c);
        }
        return text.toString();
    }

    int problem(int symbology) {
        List<Integer> majorities = majorities(symbology);
        if (majorities.isEmpty()) {
            return 1;
        }
        if (majorities.contains(NONE)) {
            return 2;
        }
        return check[symbology] && !isRight(symbology, text(majorities)) ? 3 : 0;
    }

    int doubtful(int symbology) {
        return majorities(symbology).indexOf(NONE);
    }

    int repaired(int symbology) {
        List<Integer> majorities = majorities(symbology);
        if (Collections.frequency(majorities, NONE) != 1) {
            throw new IllegalStateException();
        }
        int place = majorities.indexOf(NONE);
        boolean outer = place == 0 || place == majorities.size() - 1;
        String choice = symbology < 2 ? "0123456789" : outer ? "ABCD" : "0123456789-$:/.+";
        String found = "";
        for (char c : choice.toCharArray()) {
            majorities.set(place, (int) c);
            found += isRight(symbology, text(majorities)) ? c : "";
        }
        if (found.length() != 1) {
            throw new NoSuchElementException();
        }
        return found.charAt(0);
    }

    int winner() {
        int winner = NONE;
        int greatest = NONE;
        for (int symbology = 0; symbology < 3; symbology++) {
            if (problem(symbology) == 0) {
                int share = 100;
                for (TreeMap<Character, Integer> votes : votes(symbology)) {
                    int voted = votes.get((char) majority(votes));
                    share = Math.min(share, 100 * voted / all(votes));
                }
                if (share > greatest) {
                    winner = symbology;
                    greatest = share;
                }
            }
        }
        return winner;
    }

    int worstScan(int symbology) {
        List<Integer> majorities = majorities(symbology);
        int worst = NONE;
        int most = NONE;
        for (int i = 0; i < scans.size(); i++) {
            String whole = see(i, symbology).whole;
            if (!whole.isEmpty() && whole.length() == majorities.size()) {
                int wrong = 0;
                for (int k = 0; k < whole.length(); k++) {
                    wrong += whole.charAt(k) == majorities.get(k) ? 0 : 1;
                }
                if (wrong > most) {
                    worst = i;
                    most = wrong;
                }
            }
        }
        if (worst == NONE) {
            throw new NoSuchElementException();
        }
        return worst;
    }

    boolean setCheck(int symbology, boolean on) {
        needSymbology(symbology);
        boolean before = check[symbology];
        check[symbology] = on;
        return before;
    }
}
