import java.math.BigInteger;
import java.util.ArrayDeque;
import java.util.ArrayList;
import java.util.Deque;
import java.util.HashSet;
import java.util.List;
import java.util.Set;

/**
 * The document once more, in the slowest and most literal way: every layout, every distribution to pages and
 * every choice of lines is tried. It shares no idea with the class, so that both are hardly wrong in the same way.
 */
final class Model {
    private record Word(int letters, int pause) { }

    private record Line(int rhyme, boolean begins, List<Word> words) { }

    /** Lines, settings and the random number; never changed, so that it may be kept as it is. */
    private record State(List<Line> lines, List<Integer> settings, long random) { }

    private record Image(State state, List<State> recorded) { }

    /** A layout or a distribution: the sizes of its rows or pages, and what it costs. */
    private record Division(List<Integer> sizes, int cost) { }

    private static final int[][] RANGES = {{6, 40}, {0, 4}, {0, 9}, {2, 20}, {1, 3}, {0, 2}, {0, 2}};

    private State now = new State(List.of(), List.of(20, 2, 4, 8, 2, 0, 1), 1);
    private final Deque<State> recorded = new ArrayDeque<>();
    private Image image = null;
    private String tape = "";
    private final Object[] sheets = new Object[4];

    // ---- actions

    private static boolean in(long v, long least, long most) {
        return v >= least && v <= most;
    }

    private int act(State after, int answer) {
        recorded.addLast(now);
        if (recorded.size() > 6) {
            recorded.removeFirst();
        }
        now = after;
        return answer;
    }

    private State withLines(List<Line> lines) {
        return new State(List.copyOf(lines), now.settings, now.random);
    }

    int line(int rhyme, int begins) {
        if (!in(rhyme, 0, 3) || !in(begins, 0, 1)) return -1;
        if (now.lines.size() == 12) return -3;
        List<Line> lines = new ArrayList<>(now.lines);
        lines.add(new Line(rhyme, begins == 1 || lines.isEmpty(), List.of()));
        return act(withLines(lines), lines.size() - 1);
    }

    int word(int letters, int pause) {
        if (!in(letters, 1, 9) || !in(pause, 0, 3)) return -1;
        if (now.lines.isEmpty()) return -4;
        List<Line> lines = new ArrayList<>(now.lines);
        Line last = lines.remove(lines.size() - 1);
        if (last.words.size() == 6) return -3;
        List<Word> words = new ArrayList<>(last.words);
        words.add(new Word(letters, pause));
        lines.add(new Line(last.rhyme, last.begins, List.copyOf(words)));
        return act(withLines(lines), words.size());
    }

    int drop() {
        if (now.lines.isEmpty()) return -4;
        int left = now.lines.size() - 1;
        return act(withLines(now.lines.subList(0, left)), left);
    }

    int rhyme(int k, int r) {
        if (!in(k, 0, now.lines.size() - 1) || !in(r, 0, 3)) return -1;
        Line line = now.lines.get(k);
        if (line.rhyme == r) return -2;
        List<Line> lines = new ArrayList<>(now.lines);
        lines.set(k, new Line(r, line.begins, line.words));
        return act(withLines(lines), line.rhyme);
    }

    int tell(int what, int v) {
        if (!in(what, 0, 6) || !in(v, RANGES[what][0], RANGES[what][1])) return -1;
        int previous = now.settings.get(what);
        if (previous == v) return -2;
        List<Integer> settings = new ArrayList<>(now.settings);
        settings.set(what, v);
        return act(new State(now.lines, List.copyOf(settings), now.random), previous);
    }

    // ---- stanzas

    private int stanzaOf(int k) {
        int stanza = -1;
        for (int l = 0; l <= k; l++) {
            if (now.lines.get(l).begins) stanza++;
        }
        return stanza;
    }

    private List<Integer> linesOfStanza(int stanza) {
        List<Integer> lines = new ArrayList<>();
        for (int l = 0; l < now.lines.size(); l++) {
            if (stanzaOf(l) == stanza) lines.add(l);
        }
        return lines;
    }

    private int rank(int k) {
        Set<Integer> rhymes = new HashSet<>();
        for (int l : linesOfStanza(stanzaOf(k))) {
            if (now.lines.get(l).rhyme == now.lines.get(k).rhyme) break;
            rhymes.add(now.lines.get(l).rhyme);
        }
        return rhymes.size();
    }

    private String ranks(int stanza) {
        StringBuilder digits = new StringBuilder();
        for (int l : linesOfStanza(stanza)) digits.append(rank(l));
        return digits.toString();
    }

    private int indentation(int k) {
        int step = now.settings.get(1);
        switch (now.settings.get(6)) {
            case 0: return 0;
            case 1: return step * rank(k);
            default: return linesOfStanza(stanzaOf(k)).indexOf(k) % 2 == 0 ? 0 : step;
        }
    }

    // ---- layouts and distributions

    /** The sizes of the parts into which n things are divided at the bits of a mask; none of 0 things. */
    private static List<Integer> divide(int n, int mask) {
        List<Integer> sizes = new ArrayList<>();
        int size = 0;
        for (int i = 0; i < n; i++) {
            size++;
            if (i == n - 1 || (mask >> i & 1) == 1) {
                sizes.add(size);
                size = 0;
            }
        }
        return sizes;
    }

    /** Whether a comes before b because the first size that differs is greater. */
    private static boolean longerFirst(List<Integer> a, List<Integer> b) {
        for (int i = 0; i < Math.min(a.size(), b.size()); i++) {
            if (!a.get(i).equals(b.get(i))) return a.get(i) > b.get(i);
        }
        return false;
    }

    private static Division best(List<Division> all) {
        Division best = null;
        for (Division d : all) {
            if (best == null || d.cost < best.cost || d.cost == best.cost && longerFirst(d.sizes, best.sizes)) best = d;
        }
        return best;
    }

    private List<Division> layouts(int k) {
        List<Word> words = now.lines.get(k).words;
        if (words.isEmpty()) return List.of(new Division(List.of(0), 0));
        List<Division> all = new ArrayList<>();
        for (int mask = 0; mask < 1 << words.size() - 1; mask++) {
            List<Integer> sizes = divide(words.size(), mask);
            int cost = layoutCost(k, sizes);
            if (cost >= 0) all.add(new Division(sizes, cost));
        }
        return all;
    }

    private int layoutCost(int k, List<Integer> sizes) {
        List<Word> words = now.lines.get(k).words;
        int measure = now.settings.get(0);
        int cost = 0;
        int next = 0;
        for (int row = 0; row < sizes.size(); row++) {
            int width = indentation(k) + (row > 0 ? now.settings.get(2) : 0) + sizes.get(row) - 1;
            for (int i = 0; i < sizes.get(row); i++) width += words.get(next++).letters;
            if (width > measure) return -1;
            if (row == sizes.size() - 1) break;
            int p = words.get(next - 1).pause;
            cost += new int[] {1, 10 + (3 - p) * (3 - p), (measure - width) * (measure - width)}[now.settings.get(5)];
        }
        return cost;
    }

    private int rows(int k) {
        Division layout = best(layouts(k));
        return layout == null ? -4 : layout.sizes.size();
    }

    private int[] allRows() {
        int[] rows = new int[now.lines.size()];
        for (int k = 0; k < rows.length; k++) rows[k] = rows(k);
        return rows;
    }

    private boolean allFit() {
        for (int r : allRows()) {
            if (r < 0) return false;
        }
        return true;
    }

    private int height(int[] rows, int from, int to) {
        int height = 0;
        for (int k = from; k < to; k++) {
            height += rows[k];
            if (k + 1 < to && stanzaOf(k) != stanzaOf(k + 1)) height++;
        }
        return height;
    }

    /** The number of cuts, or -1 if the distribution is not allowed. */
    private int cutsOf(int[] rows, int[] stanzas, List<Integer> sizes) {
        int cuts = 0;
        int from = 0;
        for (int size : sizes) {
            int to = from + size;
            if (height(rows, from, to) > now.settings.get(3)) return -1;
            if (to < rows.length && stanzas[to - 1] == stanzas[to]) {
                int before = 0;
                int after = 0;
                for (int k = from; k < to; k++) before += stanzas[k] == stanzas[to] ? 1 : 0;
                for (int k = to; k < rows.length; k++) after += stanzas[k] == stanzas[to] ? 1 : 0;
                if (before < now.settings.get(4) || after < now.settings.get(4)) return -1;
                cuts++;
            }
            from = to;
        }
        return cuts;
    }

    private int[] stanzaOfEach() {
        int[] stanzas = new int[now.lines.size()];
        for (int k = 0; k < stanzas.length; k++) stanzas[k] = stanzaOf(k);
        return stanzas;
    }

    /** The cost of a distribution here is its cuts, a thousand each, and its pages. */
    private Division pages() {
        int n = now.lines.size();
        if (n == 0) return new Division(List.of(), 0);
        if (!allFit()) return null;
        int[] rows = allRows();
        int[] stanzas = stanzaOfEach();
        List<Division> all = new ArrayList<>();
        for (int mask = 0; mask < 1 << n - 1; mask++) {
            List<Integer> sizes = divide(n, mask);
            int cuts = cutsOf(rows, stanzas, sizes);
            if (cuts >= 0) all.add(new Division(sizes, cuts * 1000 + sizes.size()));
        }
        return best(all);
    }

    // ---- questions

    int of(int k, int what) {
        if (!in(k, 0, now.lines.size() - 1) || !in(what, 0, 7)) return -1;
        Line line = now.lines.get(k);
        if (what == 0) return line.rhyme;
        if (what == 1) return line.begins ? 1 : 0;
        if (what == 2) return line.words.size();
        if (what == 3) return stanzaOf(k);
        if (what == 4) return indentation(k);
        Division layout = best(layouts(k));
        if (what == 5) return layout == null ? -4 : layout.sizes.size();
        if (what == 6) return layout == null ? -4 : layout.cost;
        Division pages = pages();
        return pages == null ? -4 : partOf(pages.sizes, k);
    }

    private static int partOf(List<Integer> sizes, int index) {
        int part = 0;
        int left = index;
        while (left >= sizes.get(part)) left -= sizes.get(part++);
        return part;
    }

    int said(int k, int i, int what) {
        if (!in(k, 0, now.lines.size() - 1) || !in(what, 0, 3)) return -1;
        List<Word> words = now.lines.get(k).words;
        if (!in(i, 0, words.size() - 1)) return -1;
        if (what == 0) return words.get(i).letters;
        if (what == 1) return words.get(i).pause;
        Division layout = best(layouts(k));
        if (layout == null) return -4;
        int row = partOf(layout.sizes, i);
        if (what == 2) return row;
        int position = indentation(k) + (row > 0 ? now.settings.get(2) : 0);
        for (int j = 0; j < i; j++) {
            if (partOf(layout.sizes, j) == row) position += words.get(j).letters + 1;
        }
        return position;
    }

    int count(int what) {
        if (!in(what, 0, 12)) return -1;
        if (what <= 6) return now.settings.get(what);
        if (what == 7) return now.lines.size();
        if (what == 8) return stanzaOf(now.lines.size() - 1) + 1;
        if (what == 12) return recorded.size();
        if (what == 9) {
            int sum = 0;
            for (int k = 0; k < now.lines.size(); k++) sum += allFit() ? best(layouts(k)).cost : 0;
            return allFit() ? sum : -4;
        }
        Division pages = pages();
        if (pages == null) return -4;
        return what == 10 ? pages.sizes.size() : pages.cost / 1000;
    }

    int page(int p, int what) {
        Division pages = pages();
        if (pages == null || !in(p, 0, pages.sizes.size() - 1) || !in(what, 0, 2)) return -1;
        int first = 0;
        for (int q = 0; q < p; q++) first += pages.sizes.get(q);
        if (what == 0) return first;
        if (what == 1) return pages.sizes.get(p);
        return height(allRows(), first, first + pages.sizes.get(p));
    }

    long stanza(int k, int what) {
        if (!in(k, 0, stanzaOf(now.lines.size() - 1)) || !in(what, 0, 4)) return -1;
        List<Integer> lines = linesOfStanza(k);
        if (what == 0) return lines.get(0);
        if (what == 1) return lines.size();
        if (what == 2) return lines.stream().map(l -> now.lines.get(l).rhyme).distinct().count();
        if (what == 3) return Long.parseLong(ranks(k));
        int first = 0;
        while (!ranks(first).equals(ranks(k))) first++;
        return first;
    }

    int settings(int k) {
        return in(k, 0, now.lines.size() - 1) ? layouts(k).size() : -1;
    }

    long whole(int c, int what) {
        if (!in(c, 0, 10) || !in(what, 0, 1)) return -1;
        if (!allFit()) return what;
        int[] rows = allRows();
        int[] stanzas = stanzaOfEach();
        BigInteger sum = BigInteger.ZERO;
        for (int left = 0; left < 1 << rows.length; left++) {
            if (!hasUncut(rows, stanzas, left)) continue;
            int kept = Integer.bitCount(left);
            sum = sum.add(BigInteger.valueOf(10 - c).pow(kept).multiply(BigInteger.valueOf(c).pow(rows.length - kept)));
        }
        BigInteger denominator = BigInteger.TEN.pow(rows.length);
        BigInteger divisor = sum.gcd(denominator);
        return (what == 0 ? sum : denominator).divide(divisor).longValueExact();
    }

    /** Whether the lines whose bits are set can be distributed without a cut; every end of every page is tried. */
    private boolean hasUncut(int[] rows, int[] stanzas, int left) {
        int[] lines = new int[Integer.bitCount(left)];
        for (int k = 0, n = 0; k < rows.length; k++) {
            if ((left >> k & 1) == 1) lines[n++] = k;
        }
        boolean[] can = new boolean[lines.length + 1];
        can[lines.length] = true;
        for (int from = lines.length - 1; from >= 0; from--) {
            int height = 0;
            for (int to = from + 1; to <= lines.length; to++) {
                height += rows[lines[to - 1]];
                if (to - 1 > from && stanzas[lines[to - 1]] != stanzas[lines[to - 2]]) height++;
                boolean cut = to < lines.length && stanzas[lines[to - 1]] == stanzas[lines[to]];
                can[from] |= height <= now.settings.get(3) && !cut && can[to];
            }
        }
        return can[0];
    }

    // ---- what is done

    int type(int letter) {
        if (!in(letter, 32, 126)) return -1;
        if (tape.length() == 90) return -3;
        tape += (char) letter;
        return tape.length();
    }

    int read() {
        String text = tape;
        tape = "";
        List<Integer> places = new ArrayList<>();
        StringBuilder dense = new StringBuilder();
        for (int p = 0; p < text.length(); p++) {
            if (text.charAt(p) != ' ') {
                dense.append(text.charAt(p));
                places.add(p);
            }
        }
        for (int n = 1; n <= dense.length(); n++) {
            if (!canBegin(dense.substring(0, n))) return -20 - places.get(n - 1);
        }
        if (dense.length() > 0 && dense.charAt(dense.length() - 1) == '|') return -20 - text.length();
        List<Line> lines = new ArrayList<>();
        for (String part : dense.toString().split("(?<=.)(?=[A-D|])")) {
            if (part.isEmpty() || part.equals("|")) continue;
            lines.add(new Line(part.charAt(0) - 'A', false, words(part.substring(1))));
        }
        return act(withLines(begun(dense.toString(), lines)), lines.size());
    }

    private static final String ONE_LINE = "[A-D](?:[1-9][,.!]?){0,6}";

    /** Whether a text, or one that could not go on only because it is long enough, begins like this. */
    private static boolean canBegin(String prefix) {
        String letters = prefix.replaceAll("[^A-D]", "");
        return prefix.matches(ONE_LINE + "(?:\\|?" + ONE_LINE + ")*\\|?") && letters.length() <= 12;
    }

    private static List<Line> begun(String dense, List<Line> lines) {
        List<Line> all = new ArrayList<>();
        int place = -1;
        for (Line line : lines) {
            do place++; while (!in(dense.charAt(place), 'A', 'D'));
            all.add(new Line(line.rhyme, place == 0 || dense.charAt(place - 1) == '|', line.words));
        }
        return all;
    }

    private static List<Word> words(String text) {
        List<Word> words = new ArrayList<>();
        for (int p = 0; p < text.length(); p++) {
            if (!Character.isDigit(text.charAt(p))) continue;
            int pause = p + 1 < text.length() ? Math.max(0, " ,.!".indexOf(text.charAt(p + 1))) : 0;
            words.add(new Word(text.charAt(p) - '0', pause));
        }
        return List.copyOf(words);
    }

    int drift(int n) {
        if (!in(n, 1, 40)) return -1;
        for (int turn = 0; turn < n; turn++) {
            State before = now;
            Deque<State> recordedBefore = new ArrayDeque<>(recorded);
            long d = BigInteger.valueOf(now.random).multiply(BigInteger.valueOf(1103515245)).add(BigInteger.valueOf(12345))
                    .mod(BigInteger.ONE.shiftLeft(31)).longValueExact();
            now = new State(now.lines, now.settings, d);
            int x = (int) (d / 65536);
            int y = x / 8;
            if (x % 8 <= 1) line(y % 4, y / 4 % 2);
            else if (x % 8 <= 4) word(y % 9 + 1, y / 9 % 4);
            else if (x % 8 == 5) rhyme(y / 4 % 12, y % 4);
            else if (x % 8 == 6) tell(5, y % 3);
            else tell(0, y % 35 + 6);
            State after = now;
            recorded.clear();
            recorded.addAll(recordedBefore);
            now = before;
            act(after, 0);
        }
        return now.lines.size();
    }

    int undo() {
        if (recorded.isEmpty()) return -4;
        now = recorded.removeLast();
        return recorded.size();
    }

    int seed(int v) {
        if (v < 0) return -1;
        int previous = (int) now.random;
        now = new State(now.lines, now.settings, v);
        return previous;
    }

    int image() {
        image = new Image(now, List.copyOf(recorded));
        return 1;
    }

    int restore() {
        if (image == null) return -4;
        now = image.state;
        recorded.clear();
        recorded.addAll(image.recorded);
        return 1;
    }

    // ---- sheets, which are held as real arrays here

    private static final Class<?>[] TYPES = {byte.class, short.class, int.class, long.class};

    private int sheetError(int sheet, int lane) {
        if (!in(sheet, 0, 3) || !in(lane, 0, 3)) return -1;
        if (sheets[sheet] == null) return -11;
        return sheets[sheet].getClass().getComponentType() != TYPES[lane] ? -12 : 0;
    }

    private boolean inside(int sheet, long i, long n) {
        return n >= 0 && i >= 0 && i + n <= java.lang.reflect.Array.getLength(sheets[sheet]);
    }

    private void set(int sheet, int i, long v) {
        if (sheets[sheet] instanceof byte[] b) b[i] = (byte) v;
        if (sheets[sheet] instanceof short[] s) s[i] = (short) v;
        if (sheets[sheet] instanceof int[] n) n[i] = (int) v;
        if (sheets[sheet] instanceof long[] l) l[i] = v;
    }

    int cuts(int sheet, int lane, int i, int n) {
        if (!in(n, 1, 12)) return -1;
        int error = sheetError(sheet, lane);
        if (error != 0) return error;
        if (!inside(sheet, i, n)) return -13;
        List<Integer> sizes = new ArrayList<>();
        int sum = 0;
        for (int e = 0; e < n; e++) {
            long v = java.lang.reflect.Array.getLong(sheets[sheet], i + e);
            if (!in(v, 1, 12)) return -2;
            sizes.add((int) v);
            sum += v;
        }
        if (sum != now.lines.size()) return -2;
        if (!allFit()) return -4;
        int cuts = cutsOf(allRows(), stanzaOfEach(), sizes);
        return cuts < 0 ? -4 : cuts;
    }

    int film(int sheet, int lane, int i) {
        int error = sheetError(sheet, lane);
        if (error != 0) return error;
        if (!inside(sheet, i, now.lines.size())) return -13;
        for (int k = 0; k < now.lines.size(); k++) set(sheet, i + k, rows(k));
        return now.lines.size();
    }

    int sheet(int sheet, int lane, int n) {
        if (!in(sheet, 0, 3) || !in(lane, 0, 3) || n > 24) return -1;
        if (n < 0) return -14;
        sheets[sheet] = java.lang.reflect.Array.newInstance(TYPES[lane], n);
        return n;
    }

    int lift(int sheet) {
        if (!in(sheet, 0, 3)) return -1;
        if (sheets[sheet] == null) return -11;
        int length = java.lang.reflect.Array.getLength(sheets[sheet]);
        sheets[sheet] = null;
        return length;
    }

    int item(int sheet, int lane, int i, long v) {
        int error = sheetError(sheet, lane);
        if (error != 0) return error;
        if (!inside(sheet, i, 1)) return -13;
        set(sheet, i, v);
        return 1;
    }

    int copy(int from, int i, int to, int j, int n) {
        if (!in(from, 0, 3) || !in(to, 0, 3)) return -1;
        if (sheets[from] == null || sheets[to] == null) return -11;
        if (sheets[from].getClass() != sheets[to].getClass()) return -12;
        if (!inside(from, i, n) || !inside(to, j, n)) return -13;
        long[] values = new long[n];
        for (int e = 0; e < n; e++) values[e] = java.lang.reflect.Array.getLong(sheets[from], i + e);
        for (int e = 0; e < n; e++) set(to, j + e, values[e]);
        return n;
    }
}
