import java.util.ArrayList;
import java.util.Arrays;
import java.util.List;
import java.util.TreeMap;

/**
 * The document by other means than the program's: no tables of logs, words repaired and shares made by solving linear
 * equations, the odd share by trying each one. Slow; only for the tests.
 */
final class Model {
    static final int NONE = -1;

    private int n = 1;
    private int k = 0;
    private int b = 0;
    private int[] word = new int[1];
    private boolean[] lost = new boolean[1];
    private List<int[]> changes = new ArrayList<>();

    private final List<Integer> block = new ArrayList<>();
    private int[] sent = null;
    private int[] laid = null;
    private boolean[] gone = null;
    private int stripes;
    private int laidK;
    private int laidB;

    private int d = 1;
    private int w = 1;
    private final TreeMap<Integer, int[]> told = new TreeMap<>();

    static boolean isByte(int v) {
        return 0 <= v && v <= 255;
    }

    static int mul(int a, int b) {
        return FieldTest.product(a, b);
    }

    private static final int[] INVERSES = inverses();

    private static int[] inverses() {
        int[] all = new int[256];
        for (int a = 1; a < 256; a++) {
            for (int c = 1; c < 256; c++) {
                if (mul(a, c) == 1) {
                    all[a] = c;
                }
            }
        }
        return all;
    }

    private static final int[] TWOS = twos();

    private static int[] twos() {
        int[] all = new int[255];
        all[0] = 1;
        for (int e = 1; e < 255; e++) {
            all[e] = mul(all[e - 1], 2);
        }
        return all;
    }

    static int two(int e) {
        return TWOS[((e % 255) + 255) % 255];
    }

    // ---- a word

    int code(int n, int k, int b) {
        if (n < 1 || n > 200 || k < 0 || k > 40 || n + k > 255 || b < 0 || b > 254) {
            return NONE;
        }
        this.n = n;
        this.k = k;
        this.b = b;
        word = new int[n + k];
        lost = new boolean[n + k];
        return n + k;
    }

    int generator(int i) {
        if (i < 0 || i > k) {
            return NONE;
        }
        int[] all = {1};
        for (int j = 0; j < k; j++) {
            int[] next = new int[all.length + 1];
            for (int p = 0; p < all.length; p++) {
                next[p + 1] ^= all[p];
                next[p] ^= mul(all[p], two(b + j));
            }
            all = next;
        }
        return all[i];
    }

    int put(int i, int v) {
        if (i < 0 || i >= n + k || !isByte(v)) {
            return NONE;
        }
        int old = word[i];
        word[i] = v;
        return old;
    }

    int encode() {
        for (int i = 0; i < n; i++) {
            if (lost[i]) {
                return NONE;
            }
        }
        word = encoded(Arrays.copyOf(word, n), k, b);
        lost = new boolean[n + k];
        return 1;
    }

    /** The repair bytes are what k lost bytes would have to be. */
    static int[] encoded(int[] data, int k, int b) {
        int[] all = Arrays.copyOf(data, data.length + k);
        boolean[] open = new boolean[all.length];
        Arrays.fill(open, data.length, all.length, true);
        int[] right = nearest(all, open, k, b);
        if (right == null) {
            throw new IllegalStateException("the model can't encode");
        }
        return right;
    }

    int at(int i) {
        return i < 0 || i >= n + k ? NONE : word[i];
    }

    int lose(int i) {
        if (i < 0 || i >= n + k || lost[i]) {
            return NONE;
        }
        lost[i] = true;
        return count(lost);
    }

    int syndrome(int i) {
        return i < 0 || i >= k ? NONE : value(word, lost, b + i);
    }

    int repair() {
        int[] right = nearest(word, lost, k, b);
        if (right == null) {
            return NONE;
        }
        changes = new ArrayList<>();
        int t = 0;
        for (int i = 0; i < n + k; i++) {
            if (right[i] != word[i]) {
                changes.add(new int[] {i, right[i] ^ word[i]});
                t += lost[i] ? 0 : 1;
            }
        }
        word = right;
        lost = new boolean[n + k];
        return t;
    }

    int changed(int j, int what) {
        if (j < 0 || j >= changes.size() || what < 0 || what > 1) {
            return NONE;
        }
        return changes.get(j)[what];
    }

    private static int count(boolean[] all) {
        int many = 0;
        for (boolean one : all) {
            many += one ? 1 : 0;
        }
        return many;
    }

    static int value(int[] word, boolean[] lost, int e) {
        int sum = 0;
        for (int i = 0; i < word.length; i++) {
            if (!lost[i]) {
                sum ^= mul(word[i], two((word.length - 1 - i) * (e % 255)));
            }
        }
        return sum;
    }

    /** The right word at most (k - e) / 2 places away, or null: Peterson's way, each number of errors tried. */
    static int[] nearest(int[] word, boolean[] lost, int k, int b) {
        int e = count(lost);
        if (e > k) {
            return null;
        }
        int[] syndromes = new int[k];
        for (int i = 0; i < k; i++) {
            syndromes[i] = value(word, lost, b + i);
        }
        int[] free = withoutLost(syndromes, lost);
        for (int t = 0; 2 * t + e <= k; t++) {
            int[] locator = locator(free, t);
            boolean[] open = locator == null ? null : withRoots(locator, lost);
            if (open == null || count(open) != e + t) {
                continue;
            }
            int[] right = filled(word, open, k, b);
            if (right != null) {
                return right;
            }
        }
        return null;
    }

    /** Syndromes to which the lost places add nothing: k - e of them. */
    private static int[] withoutLost(int[] syndromes, boolean[] lost) {
        int[] all = syndromes;
        for (int i = 0; i < lost.length; i++) {
            if (lost[i]) {
                int[] next = new int[all.length - 1];
                for (int j = 0; j < next.length; j++) {
                    next[j] = all[j + 1] ^ mul(all[j], two(lost.length - 1 - i));
                }
                all = next;
            }
        }
        return all;
    }

    /** s(1 .. t) so that free(i + t) = sum of s(j) free(i + t - j) for all i that there are. */
    private static int[] locator(int[] free, int t) {
        int[][] rows = new int[Math.max(0, free.length - t)][t + 1];
        for (int i = 0; i < rows.length; i++) {
            for (int j = 1; j <= t; j++) {
                rows[i][j - 1] = free[i + t - j];
            }
            rows[i][t] = free[i + t];
        }
        return solve(rows, t);
    }

    /** The lost places and those whose X solves X^t = sum of s(j) X^(t - j). */
    private static boolean[] withRoots(int[] locator, boolean[] lost) {
        boolean[] open = lost.clone();
        int t = locator.length;
        for (int i = 0; i < lost.length; i++) {
            int power = lost.length - 1 - i;
            int sum = two(power * t);
            for (int j = 1; j <= t; j++) {
                sum ^= mul(locator[j - 1], two(power * (t - j)));
            }
            open[i] |= sum == 0 && t > 0;
        }
        return open;
    }

    /** The right word that differs at the open places alone, or null; not more than k are open. */
    static int[] filled(int[] word, boolean[] open, int k, int b) {
        List<Integer> places = new ArrayList<>();
        for (int i = 0; i < open.length; i++) {
            if (open[i]) {
                places.add(i);
            }
        }
        int many = places.size();
        int[][] rows = new int[k][many + 1];
        for (int i = 0; i < k; i++) {
            for (int j = 0; j < many; j++) {
                rows[i][j] = two((word.length - 1 - places.get(j)) * (b + i));
            }
            rows[i][many] = value(word, open, b + i);
        }
        int[] values = solve(rows, many);
        if (values == null) {
            return null;
        }
        int[] right = word.clone();
        for (int j = 0; j < many; j++) {
            right[places.get(j)] = values[j];
        }
        return right;
    }

    /** One solution of the linear equations (the last column is what comes out), or null. */
    private static int[] solve(int[][] rows, int unknowns) {
        int[] pivotOf = new int[unknowns];
        Arrays.fill(pivotOf, -1);
        int used = 0;
        for (int c = 0; c < unknowns; c++) {
            int p = used;
            while (p < rows.length && rows[p][c] == 0) {
                p++;
            }
            if (p == rows.length) {
                continue;
            }
            int[] row = rows[p];
            rows[p] = rows[used];
            rows[used] = row;
            int inverse = INVERSES[row[c]];
            for (int j = 0; j <= unknowns; j++) {
                row[j] = mul(row[j], inverse);
            }
            for (int[] other : rows) {
                int factor = other[c];
                if (other != row && factor != 0) {
                    for (int j = 0; j <= unknowns; j++) {
                        other[j] ^= mul(factor, row[j]);
                    }
                }
            }
            pivotOf[c] = used++;
        }
        for (int i = used; i < rows.length; i++) {
            if (rows[i][unknowns] != 0) {
                return null;
            }
        }
        int[] solution = new int[unknowns];
        for (int c = 0; c < unknowns; c++) {
            solution[c] = pivotOf[c] < 0 ? 0 : rows[pivotOf[c]][unknowns];
        }
        return solution;
    }

    // ---- a block

    int block(int... four) {
        List<Integer> more = new ArrayList<>();
        for (int v : four) {
            if (v != NONE && !isByte(v)) {
                return NONE;
            }
            if (v != NONE) {
                more.add(v);
            }
        }
        if (block.size() + more.size() > 800) {
            return NONE;
        }
        block.addAll(more);
        sent = null;
        return block.size();
    }

    int wipe() {
        int had = block.size();
        block.clear();
        sent = null;
        return had;
    }

    int lay(int s) {
        int m = block.size();
        if (s < 1 || s > 16 || s > m || (m + s - 1) / s > 200) {
            return NONE;
        }
        stripes = s;
        laidK = k;
        laidB = b;
        sent = new int[m + s * k];
        for (int p = 0; p < s; p++) {
            int[] data = new int[longest()];
            for (int j = p; j < m; j += s) {
                data[j / s] = block.get(j);
                sent[j] = block.get(j);
            }
            int[] all = encoded(data, k, b);
            for (int r = 0; r < k; r++) {
                sent[m + r * s + p] = all[data.length + r];
            }
        }
        laid = sent.clone();
        gone = new boolean[sent.length];
        return sent.length;
    }

    private int longest() {
        return (block.size() + stripes - 1) / stripes;
    }

    int sent(int i) {
        return sent == null || i < 0 || i >= sent.length ? NONE : sent[i];
    }

    int damage(int i, int many, int v) {
        if (sent == null || many < 1 || many > 100 || i < 0 || (long) i + many > sent.length) {
            return NONE;
        }
        if (v != NONE && !isByte(v)) {
            return NONE;
        }
        for (int j = i; j < i + many; j++) {
            if (v == NONE) {
                gone[j] = true;
            } else {
                sent[j] ^= v;
            }
        }
        return 1;
    }

    int mend() {
        if (sent == null) {
            return NONE;
        }
        int sum = 0;
        for (int p = 0; p < stripes; p++) {
            int t = mendOne(p);
            if (t < 0) {
                return -2 - p;
            }
            sum += t;
        }
        return sum;
    }

    private int mendOne(int p) {
        int m = block.size();
        List<Integer> slots = new ArrayList<>();
        for (int j = p; j < m; j += stripes) {
            slots.add(j);
        }
        if (slots.size() < longest()) {
            slots.add(NONE);
        }
        for (int j = m + p; j < sent.length; j += stripes) {
            slots.add(j);
        }
        int[] stripe = new int[slots.size()];
        boolean[] open = new boolean[slots.size()];
        for (int i = 0; i < stripe.length; i++) {
            int slot = slots.get(i);
            stripe[i] = slot == NONE ? 0 : sent[slot];
            open[i] = slot != NONE && gone[slot];
        }
        int[] right = nearest(stripe, open, laidK, laidB);
        int pad = slots.indexOf(NONE);
        if (right == null || (pad >= 0 && right[pad] != 0)) {
            return NONE;
        }
        int t = 0;
        for (int i = 0; i < stripe.length; i++) {
            int slot = slots.get(i);
            if (slot != NONE) {
                t += !gone[slot] && sent[slot] != right[i] ? 1 : 0;
                sent[slot] = right[i];
                gone[slot] = false;
            }
        }
        return t;
    }

    int wrong() {
        if (sent == null) {
            return NONE;
        }
        int many = 0;
        for (int i = 0; i < sent.length; i++) {
            many += gone[i] || sent[i] != laid[i] ? 1 : 0;
        }
        return many;
    }

    // ---- shares

    int shares(int d, int w) {
        if (d < 1 || d > 20 || w < 1 || w > 16) {
            return NONE;
        }
        this.d = d;
        this.w = w;
        told.clear();
        return 1;
    }

    int share(int x, int i, int v) {
        if (!isByte(x) || i < 0 || i >= w || !isByte(v)) {
            return NONE;
        }
        told.computeIfAbsent(x, key -> new int[w])[i] = v;
        return told.size();
    }

    int drop(int x) {
        return told.remove(x) == null ? NONE : told.size();
    }

    int made(int x, int i) {
        if (!isByte(x) || i < 0 || i >= w || told.size() < d) {
            return NONE;
        }
        return at(polynomials(NONE)[i], x);
    }

    int apart() {
        return told.size() < d ? NONE : apart(NONE);
    }

    int odd() {
        if (told.size() < d) {
            return NONE;
        }
        if (apart(NONE) == 0) {
            return 256;
        }
        for (int x : told.keySet()) {
            if (told.size() - 1 >= d && apart(x) == 0) {
                return x;
            }
        }
        return NONE;
    }

    /** Each place's polynomial by the d least told shares but one, its parts from the constant on. */
    private int[][] polynomials(int without) {
        List<Integer> least = new ArrayList<>();
        for (int x : told.keySet()) {
            if (x != without && least.size() < d) {
                least.add(x);
            }
        }
        int[][] all = new int[w][];
        for (int i = 0; i < w; i++) {
            int[][] rows = new int[d][d + 1];
            for (int r = 0; r < d; r++) {
                int power = 1;
                for (int c = 0; c < d; c++) {
                    rows[r][c] = power;
                    power = mul(power, least.get(r));
                }
                rows[r][d] = told.get(least.get(r))[i];
            }
            all[i] = solve(rows, d);
        }
        return all;
    }

    static int at(int[] polynomial, int x) {
        int sum = 0;
        int power = 1;
        for (int part : polynomial) {
            sum ^= mul(part, power);
            power = mul(power, x);
        }
        return sum;
    }

    private int apart(int without) {
        int[][] all = polynomials(without);
        int many = 0;
        for (int x : told.keySet()) {
            boolean differs = false;
            for (int i = 0; i < w; i++) {
                differs |= at(all[i], x) != told.get(x)[i];
            }
            many += x != without && differs ? 1 : 0;
        }
        return many;
    }
}
