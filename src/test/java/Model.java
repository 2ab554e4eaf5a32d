import java.math.BigInteger;
import java.util.ArrayDeque;
import java.util.ArrayList;
import java.util.Arrays;
import java.util.Comparator;
import java.util.HashMap;
import java.util.HashSet;
import java.util.List;
import java.util.Map;
import java.util.Set;
import java.util.regex.Matcher;
import java.util.regex.Pattern;

/**
 * The document once more, written slowly and by other means than the class: rows are listed one by
 * one and judged whole, sums are BigIntegers, THE TEXT is judged by a regular expression.
 */
final class Model {
    static final int NONE = -1, BAD = -2, NO = -3, FULL = -4, MUCH = -5, LISTED = 400;
    private static final BigInteger MOST = BigInteger.valueOf(Long.MAX_VALUE);
    private static final String N = " *[0-9]{1,2}";
    private static final Pattern TEXT = Pattern.compile(" *(?:(?:f" + N + " *[a-h]{1,6}|l *[a-h]{0,40}|[betsx]" + N
            + "|[wk]" + N + " [ ]*[0-9]{1,2}) *; *)+");

    static final class Phrase {
        int slot;
        String letters;
        int[] habit = new int[3];

        int morae() {
            return letters.chars().map(c -> c <= '4' ? 1 : 2).sum();
        }

        Phrase copy() {
            Phrase p = new Phrase();
            p.slot = slot;
            p.letters = letters;
            p.habit = habit.clone();
            return p;
        }
    }

    static final class State {
        List<Phrase> phrases = new ArrayList<>();
        int begins = 15, ends = 15, t = 12;
        int[] follows = {15, 15, 15, 15};
        int[] marks = new int[40];
        String line = "";

        State copy() {
            State s = new State();
            for (Phrase p : phrases) {
                s.phrases.add(p.copy());
            }
            s.begins = begins;
            s.ends = ends;
            s.t = t;
            s.follows = follows.clone();
            s.marks = marks.clone();
            s.line = line;
            return s;
        }
    }

    State now = new State();
    private final ArrayDeque<State> states = new ArrayDeque<>();
    private final StringBuilder text = new StringBuilder();
    private final int[] refused = new int[4];

    private int refuse(int why) {
        refused[why == BAD ? 0 : why == NO ? 1 : why == FULL ? 2 : 3]++;
        return why;
    }

    private void leave(State before) {
        states.addLast(before);
        if (states.size() > 5) {
            states.removeFirst();
        }
    }

    private int change(char kind, int a, int b, String letters) {
        State before = now.copy();
        int answer = apply(kind, a, b, letters);
        if (answer < 0) {
            return refuse(answer);
        }
        leave(before);
        return answer;
    }

    /** Changes that calls and ORDERS share; refuses before it changes anything. */
    private int apply(char kind, int a, int b, String letters) {
        int was;
        switch (kind) {
            case 'f':
                if (a < 0 || a > 3 || !letters.matches("[1-8]{1,6}")) return BAD;
                for (Phrase p : now.phrases) if (p.slot == a && p.letters.equals(letters)) return NO;
                if (now.phrases.size() == 12) return FULL;
                Phrase fresh = new Phrase();
                fresh.slot = a;
                fresh.letters = letters;
                now.phrases.add(fresh);
                return now.phrases.size() - 1;
            case 'x':
                if (a < 0 || a >= now.phrases.size()) return BAD;
                now.phrases.remove(a);
                return now.phrases.size();
            case 'b':
                if (a < 0 || a > 15) return BAD;
                was = now.begins;
                now.begins = a;
                return was;
            case 'e':
                if (a < 0 || a > 15) return BAD;
                was = now.ends;
                now.ends = a;
                return was;
            case 'w':
                if (a < 0 || a > 3 || b < 0 || b > 15) return BAD;
                was = now.follows[a];
                now.follows[a] = b;
                return was;
            case 't':
                if (a < 1 || a > 40) return BAD;
                was = now.t;
                now.t = a;
                return was;
            case 'k':
                if (a < 1 || a > 39 || b < 0 || b > 2) return BAD;
                was = now.marks[a];
                now.marks[a] = b;
                return was;
            case 's':
                if (a < 0 || a > 2) return BAD;
                List<Integer> best = bestCut(a);
                if (best == null) return NO;
                for (int i : best) now.phrases.get(i).habit[a]++;
                return best.size();
            case 'l':
                now.line = letters;
                return 0;
            case 'c':
                if (a < 1 || a > 8) return BAD;
                if (now.line.length() == 40) return FULL;
                now.line += a;
                return now.line.length();
            default:
                was = now.line.length();
                now.line = "";
                return was;
        }
    }

    int phrase(int slot, int code) { return change('f', slot, 0, "" + code); }
    int drops(int i) { return change('x', i, 0, ""); }
    int begins(int v) { return change('b', v, 0, ""); }
    int ends(int v) { return change('e', v, 0, ""); }
    int follows(int s, int v) { return change('w', s, v, ""); }
    int letter(int c) { return change('c', c, 0, ""); }
    int wipes() { return change('-', 0, 0, ""); }
    int sings(int m) { return change('s', m, 0, ""); }
    int metre(int n) { return change('t', n, 0, ""); }
    int marks(int place, int v) { return change('k', place, v, ""); }

    int of(int i, int what) {
        if (i < 0 || i >= now.phrases.size() || what < 0 || what > 6) return refuse(BAD);
        return fact(now.phrases.get(i), what);
    }

    private static int fact(Phrase p, int what) {
        int[] facts = {p.slot, p.letters.length(), p.morae(), Integer.parseInt(p.letters), p.habit[0], p.habit[1], p.habit[2]};
        return facts[what];
    }

    // ---- ON, as its words say it: by what leads from p to the end

    /** maker NONE: each row is 1; byLetters: CUTS. */
    private BigInteger on(int p, int s, boolean byLetters, int maker, Map<Integer, BigInteger> known) {
        Integer key = p * 8 + s;
        BigInteger old = known.get(key);
        if (old != null) return old;
        int end = byLetters ? now.line.length() : now.t;
        BigInteger sum = BigInteger.ZERO;
        if (p == end) {
            sum = (now.ends >> s) % 2 == 1 ? BigInteger.ONE : BigInteger.ZERO;
        } else if (byLetters || p == 0 || now.marks[p] != 2) {
            sum = startingIn(p, now.follows[s], byLetters, maker, known);
        }
        known.put(key, sum);
        return sum;
    }

    private BigInteger startingIn(int p, int set, boolean byLetters, int maker, Map<Integer, BigInteger> known) {
        BigInteger sum = BigInteger.ZERO;
        for (int i = 0; i < now.phrases.size(); i++) {
            if ((set >> now.phrases.get(i).slot) % 2 == 1) {
                sum = sum.add(startingWith(p, i, byLetters, maker, known));
            }
        }
        return sum;
    }

    private BigInteger startingWith(int p, int i, boolean byLetters, int maker, Map<Integer, BigInteger> known) {
        Phrase f = now.phrases.get(i);
        int to = p + (byLetters ? f.letters.length() : f.morae());
        boolean fits = byLetters ? now.line.startsWith(f.letters, p) : to <= now.t;
        for (int k = p + 1; fits && !byLetters && k < to; k++) {
            if (now.marks[k] == 1) fits = false;
        }
        if (!fits) return BigInteger.ZERO;
        BigInteger weight = BigInteger.valueOf(maker == NONE ? 1 : f.habit[maker] + 1L);
        return weight.multiply(on(to, f.slot, byLetters, maker, known));
    }

    private long all(boolean byLetters, int maker) {
        int end = byLetters ? now.line.length() : now.t;
        Map<Integer, BigInteger> known = new HashMap<>();
        for (int p = 1; p <= end; p++) {
            for (int s = 0; s < 4; s++) {
                if (on(p, s, byLetters, maker, known).compareTo(MOST) > 0) return MUCH;
            }
        }
        BigInteger all = end == 0 ? BigInteger.ZERO : startingIn(0, now.begins, byLetters, maker, known);
        return all.compareTo(MOST) > 0 ? MUCH : all.longValueExact();
    }

    // ---- rows listed one by one and judged whole

    private boolean lawful(List<Integer> row) {
        for (int k = 0; k < row.size(); k++) {
            int set = k == 0 ? now.begins : now.follows[now.phrases.get(row.get(k - 1)).slot];
            if ((set >> now.phrases.get(row.get(k)).slot) % 2 == 0) return false;
        }
        return !row.isEmpty() && (now.ends >> now.phrases.get(row.get(row.size() - 1)).slot) % 2 == 1;
    }

    private boolean isMade(List<Integer> row) {
        Set<Integer> stops = new HashSet<>();
        int morae = 0;
        for (int i : row) {
            morae += now.phrases.get(i).morae();
            stops.add(morae);
        }
        for (int k = 1; k < now.t; k++) {
            if (now.marks[k] == 1 && !stops.contains(k)) return false;
            if (now.marks[k] == 2 && stops.contains(k)) return false;
        }
        return morae == now.t && lawful(row);
    }

    private boolean isCut(List<Integer> row) {
        StringBuilder b = new StringBuilder();
        for (int i : row) b.append(now.phrases.get(i).letters);
        return b.toString().equals(now.line) && lawful(row);
    }

    /** All CUTS or MADE ROWS in order; null if the search gets too long. */
    List<List<Integer>> listed(boolean byLetters) {
        List<List<Integer>> rows = new ArrayList<>();
        return list(byLetters, 0, new ArrayList<>(), rows, new int[1]) ? rows : null;
    }

    private boolean list(boolean byLetters, int p, List<Integer> row, List<List<Integer>> rows, int[] tried) {
        if (++tried[0] > 40 * LISTED || rows.size() > LISTED) return false;
        if (byLetters ? isCut(row) : isMade(row)) rows.add(new ArrayList<>(row));
        for (int i = 0; i < now.phrases.size(); i++) {
            Phrase f = now.phrases.get(i);
            boolean on = byLetters ? now.line.startsWith(f.letters, p) : p + f.morae() <= now.t;
            if (on) {
                row.add(i);
                boolean whole = list(byLetters, p + (byLetters ? f.letters.length() : f.morae()), row, rows, tried);
                row.remove(row.size() - 1);
                if (!whole) return false;
            }
        }
        return true;
    }

    private int sum(List<Integer> row, int m) {
        return row.stream().mapToInt(i -> now.phrases.get(i).habit[m]).sum();
    }

    private static int compareRows(List<Integer> a, List<Integer> b) {
        for (int k = 0; k < a.size() && k < b.size(); k++) {
            if (!a.get(k).equals(b.get(k))) return a.get(k) - b.get(k);
        }
        return a.size() - b.size();
    }

    private Comparator<List<Integer>> liking(int m) {
        return Comparator.<List<Integer>>comparingInt(r -> -sum(r, m)).thenComparingInt(List::size).thenComparing(Model::compareRows);
    }

    /** null: no CUT. */
    private List<Integer> bestCut(int m) {
        List<List<Integer>> rows = listed(true);
        if (rows != null) return rows.stream().min(liking(m)).orElse(null);
        return bestFrom(0, now.begins, m, new HashMap<>());
    }

    private List<Integer> bestFrom(int p, int set, int m, Map<Integer, List<Integer>> known) {
        int key = p * 16 + set;
        if (known.containsKey(key)) return known.get(key);
        List<Integer> best = null;
        for (int i = 0; i < now.phrases.size(); i++) {
            Phrase f = now.phrases.get(i);
            if ((set >> f.slot) % 2 == 0 || !now.line.startsWith(f.letters, p)) continue;
            int to = p + f.letters.length();
            boolean last = to == now.line.length();
            if (last && (now.ends >> f.slot) % 2 == 0) continue;
            List<Integer> rest = last ? List.of() : bestFrom(to, now.follows[f.slot], m, known);
            if (rest == null) continue;
            List<Integer> row = new ArrayList<>(List.of(i));
            row.addAll(rest);
            if (best == null || liking(m).compare(row, best) < 0) best = row;
        }
        known.put(key, best);
        return best;
    }

    // ---- the questions

    long cuts() {
        long all = all(true, NONE);
        return all < 0 ? refuse(MUCH) : all;
    }

    long made() {
        long all = all(false, NONE);
        return all < 0 ? refuse(MUCH) : all;
    }

    private static int part(List<Integer> row, int i) {
        return i == NONE ? row.size() : i < row.size() ? row.get(i) : -10;
    }

    int best(int m, int i) {
        if (m < 0 || m > 2 || i < -2) return refuse(BAD);
        List<Integer> best = bestCut(m);
        if (best == null) return refuse(NO);
        return i == -2 ? sum(best, m) : part(best, i);
    }

    int fixes(int m, int s) {
        if (m < 0 || m > 2 || s < 0 || s > 3) return refuse(BAD);
        return fixed(m, s);
    }

    private int fixed(int m, int s) {
        for (int i = 0; i < now.phrases.size(); i++) {
            if (now.phrases.get(i).slot != s || now.phrases.get(i).habit[m] == 0) continue;
            boolean alone = true;
            for (int k = 0; k < now.phrases.size(); k++) {
                if (k != i && now.phrases.get(k).slot == s && now.phrases.get(k).habit[m] != 0) alone = false;
            }
            if (alone) return i;
        }
        return NONE;
    }

    int row(long n, int i) {
        if (n < 0 || i < -1) return refuse(BAD);
        long all = all(false, NONE);
        if (all < 0) return refuse(MUCH);
        if (n >= all) return refuse(NO);
        List<List<Integer>> rows = listed(false);
        return part(rows != null ? rows.get((int) n) : above(BigInteger.valueOf(n), NONE), i);
    }

    long weight(int m, int i) {
        if (m < 0 || m > 2 || i < -1 || i >= now.phrases.size()) return refuse(BAD);
        long all = all(false, m);
        if (all < 0) return refuse(MUCH);
        if (i == NONE) return all;
        return (now.begins >> now.phrases.get(i).slot) % 2 == 0 ? 0
                : startingWith(0, i, false, m, new HashMap<>()).longValueExact();
    }

    private BigInteger weightOf(List<Integer> row, int m) {
        BigInteger w = BigInteger.ONE;
        for (int i : row) w = w.multiply(BigInteger.valueOf(m == NONE ? 1 : now.phrases.get(i).habit[m] + 1L));
        return w;
    }

    int picks(int m, int seed, int i) {
        if (m < 0 || m > 2 || seed < 0 || seed > 999999 || i < -1) return refuse(BAD);
        long all = all(false, m);
        if (all < 0) return refuse(MUCH);
        if (all == 0) return refuse(NO);
        BigInteger x = BigInteger.valueOf(seed).multiply(BigInteger.valueOf(1103515245)).add(BigInteger.valueOf(12345))
                .mod(BigInteger.TWO.pow(31));
        return part(above(x.mod(BigInteger.valueOf(all)), m), i);
    }

    /** The first MADE ROW by which the weights, with those of all ahead, are above v. */
    private List<Integer> above(BigInteger v, int m) {
        List<List<Integer>> rows = listed(false);
        if (rows != null) {
            BigInteger sum = BigInteger.ZERO;
            for (List<Integer> row : rows) {
                sum = sum.add(weightOf(row, m));
                if (sum.compareTo(v) > 0) return row;
            }
            throw new IllegalStateException("no row above " + v);
        }
        return aboveByBeginnings(v, m);
    }

    /** Where there are too many to list: the weight of all ahead is summed with each beginning's own weight. */
    private List<Integer> aboveByBeginnings(BigInteger v, int m) {
        Map<Integer, BigInteger> known = new HashMap<>();
        List<Integer> row = new ArrayList<>();
        BigInteger ahead = BigInteger.ZERO;
        int p = 0;
        int set = now.begins;
        while (p < now.t) {
            for (int i = 0; ; i++) {
                Phrase f = now.phrases.get(i);
                if ((set >> f.slot) % 2 == 0) continue;
                BigInteger share = weightOf(row, m).multiply(startingWith(p, i, false, m, known));
                if (ahead.add(share).compareTo(v) > 0) {
                    row.add(i);
                    p += f.morae();
                    set = now.follows[f.slot];
                    break;
                }
                ahead = ahead.add(share);
            }
        }
        return row;
    }

    // ---- texts

    int type(int c) {
        if (c < 0 || c > 127) return refuse(BAD);
        if (text.length() == 150) return refuse(FULL);
        text.append((char) c);
        return text.length();
    }

    int clear() {
        int had = text.length();
        text.setLength(0);
        return had;
    }

    static int fault(String text) {
        if (TEXT.matcher(text).matches()) return NONE;
        int sound = 0;
        while (sound < text.length()) {
            Matcher m = TEXT.matcher(text.substring(0, sound + 1));
            if (!m.matches() && !m.hitEnd()) break;
            sound++;
        }
        return sound;
    }

    int reads() {
        int fault = fault(text.toString());
        if (fault != NONE) return -10 - fault;
        State before = now.copy();
        int done = 0;
        for (String order : text.toString().trim().split(" *; *")) {
            if (applyOrder(order) < 0) {
                now = before;
                return -1000 - done;
            }
            done++;
        }
        leave(before);
        return done;
    }

    private int applyOrder(String order) {
        Matcher numbers = Pattern.compile("[0-9]+").matcher(order);
        int a = numbers.find() ? Integer.parseInt(numbers.group()) : 0;
        int b = numbers.find() ? Integer.parseInt(numbers.group()) : 0;
        StringBuilder letters = new StringBuilder();
        for (char c : order.substring(1).toCharArray()) {
            if (c >= 'a') letters.append(c - 'a' + 1);
        }
        return apply(order.charAt(0), a, b, letters.toString());
    }

    int back() {
        if (states.isEmpty()) return refuse(NO);
        now = states.removeLast();
        return states.size();
    }

    int told(int what) {
        return what < 0 || what > 14 ? refuse(BAD) : facts()[what];
    }

    private int[] facts() {
        return new int[] {refused[0], refused[1], refused[2], refused[3], text.length(), now.phrases.size(), now.line.length(),
            now.t, now.begins, now.ends, now.follows[0], now.follows[1], now.follows[2], now.follows[3], states.size()};
    }

    long digest() {
        List<Long> all = new ArrayList<>();
        for (int v : facts()) all.add((long) v);
        for (Phrase p : now.phrases) for (int what = 0; what < 7; what++) all.add((long) fact(p, what));
        for (char c : now.line.toCharArray()) all.add((long) (c - '0'));
        for (int v : Arrays.copyOfRange(now.marks, 1, 40)) all.add((long) v);
        all.add(all(true, NONE));
        all.add(all(false, NONE));
        for (int m = 0; m < 3; m++) {
            all.add(all(false, m));
            for (int s = 0; s < 4; s++) all.add((long) fixed(m, s));
        }
        long h = 2399;
        for (long v : all) h = 31 * h + v;
        return h;
    }
}
