import java.util.Arrays;

/** Repair bytes for words, blocks laid in stripes, and shares of which any so many are enough. */
public final class ReedSets {
    public static final int NONE = -1;

    private static final int BYTES = 256;
    private static final int ORDER = 255;
    private static final int MODULUS = 0x11D;
    private static final int MOST_DATA = 200;
    private static final int MOST_REPAIRS = 40;
    private static final int MOST_PLACES = MOST_DATA + MOST_REPAIRS;
    private static final int LONGEST_WORD = 255;
    private static final int MOST_BLOCK = 800;
    private static final int MOST_STRIPES = 16;
    private static final int MOST_SENT = MOST_BLOCK + MOST_STRIPES * MOST_REPAIRS;
    private static final int MOST_DAMAGE = 100;
    private static final int MOST_NEEDED = 20;
    private static final int MOST_WIDTH = 16;

    private final Field field;
    private final Word word;
    private final Solver solver;
    private final Changes changes;
    private final Striped striped;
    private final Sharing sharing;

    public ReedSets() {
        field = new Field();
        word = new Word(field);
        solver = new Solver(field);
        changes = new Changes();
        striped = new Striped(field);
        sharing = new Sharing(field);
    }

    public int times(int a, int b) {
        if (!Field.isByte(a) || !Field.isByte(b)) {
            return NONE;
        }
        return field.product(a, b);
    }

    public int over(int a, int b) {
        if (!Field.isByte(a) || !Field.isByte(b) || b == 0) {
            return NONE;
        }
        return field.quotient(a, b);
    }

    public int power(int a, int e) {
        if (!Field.isByte(a) || (a == 0 && e < 0)) {
            return NONE;
        }
        return field.raised(a, e);
    }

    public int log(int a) {
        if (!Field.isByte(a) || a == 0) {
            return NONE;
        }
        return field.logOf(a);
    }

    public int code(int n, int k, int b) {
        if (n < 1 || n > MOST_DATA || k < 0 || k > MOST_REPAIRS) {
            return NONE;
        }
        if (n + k > LONGEST_WORD || b < 0 || b >= ORDER) {
            return NONE;
        }
        word.shape(n, k, b);
        return word.size();
    }

    public int generator(int i) {
        if (i < 0 || i > word.repairs) {
            return NONE;
        }
        return word.factors[i];
    }

    public int put(int i, int v) {
        if (!word.hasPlace(i) || !Field.isByte(v)) {
            return NONE;
        }
        int old = word.bytes[i];
        word.bytes[i] = v;
        return old;
    }

    public int encode() {
        if (word.hasLostData()) {
            return NONE;
        }
        word.fillRepairs();
        word.findAll();
        return 1;
    }

    public int at(int i) {
        return word.hasPlace(i) ? word.bytes[i] : NONE;
    }

    public int lose(int i) {
        if (!word.hasPlace(i) || word.lost[i]) {
            return NONE;
        }
        word.lost[i] = true;
        word.lostCount++;
        return word.lostCount;
    }

    public int syndrome(int i) {
        if (i < 0 || i >= word.repairs) {
            return NONE;
        }
        return word.valueFor(word.first + i);
    }

    public int repair() {
        int errors = solver.solve(word);
        if (errors == NONE) {
            return NONE;
        }
        changes.forgetAll();
        for (int j = 0; j < solver.found; j++) {
            int place = solver.places[j];
            changes.note(place, word.bytes[place] ^ solver.byteAfter(word, j));
        }
        solver.settle(word);
        return errors;
    }

    public int changed(int j, int what) {
        if (j < 0 || j >= changes.count) {
            return NONE;
        }
        if (what == 0) {
            return changes.places[j];
        }
        return what == 1 ? changes.differences[j] : NONE;
    }

    public int block(int a, int b, int c, int d) {
        if (!mayFollow(a) || !mayFollow(b) || !mayFollow(c) || !mayFollow(d)) {
            return NONE;
        }
        int more = counted(a) + counted(b) + counted(c) + counted(d);
        if (striped.size + more > MOST_BLOCK) {
            return NONE;
        }
        striped.append(a);
        striped.append(b);
        striped.append(c);
        striped.append(d);
        striped.takeUp();
        return striped.size;
    }

    public int wipe() {
        int had = striped.size;
        striped.size = 0;
        striped.takeUp();
        return had;
    }

    public int lay(int s) {
        return striped.layIn(s, word.repairs, word.first);
    }

    public int sent(int i) {
        return striped.hasSent(i) ? striped.current[i] : NONE;
    }

    public int damage(int i, int many, int v) {
        if (many < 1 || many > MOST_DAMAGE || !mayFollow(v)) {
            return NONE;
        }
        if (!striped.hasSent(i) || many > striped.sentCount - i) {
            return NONE;
        }
        striped.harm(i, many, v);
        return 1;
    }

    public int mend() {
        return striped.isLaid() ? striped.mendAll(solver) : NONE;
    }

    public int wrong() {
        return striped.isLaid() ? striped.countWrong() : NONE;
    }

    public int shares(int d, int w) {
        if (d < 1 || d > MOST_NEEDED || w < 1 || w > MOST_WIDTH) {
            return NONE;
        }
        sharing.start(d, w);
        return 1;
    }

    public int share(int x, int i, int v) {
        if (!Field.isByte(x) || !sharing.hasPlace(i) || !Field.isByte(v)) {
            return NONE;
        }
        sharing.tell(x, i, v);
        return sharing.count;
    }

    public int drop(int x) {
        if (!Field.isByte(x) || !sharing.told[x]) {
            return NONE;
        }
        sharing.told[x] = false;
        sharing.count--;
        return sharing.count;
    }

    public int made(int x, int i) {
        if (!Field.isByte(x) || !sharing.hasPlace(i) || !sharing.chooseBase(NONE)) {
            return NONE;
        }
        sharing.aimAt(x);
        return sharing.valueOf(i);
    }

    public int apart() {
        return sharing.chooseBase(NONE) ? sharing.countApart() : NONE;
    }

    public int odd() {
        return sharing.chooseBase(NONE) ? sharing.findOdd() : NONE;
    }

    private static boolean mayFollow(int v) {
        return v == NONE || Field.isByte(v);
    }

    private static int counted(int v) {
        return v == NONE ? 0 : 1;
    }

    /** Arithmetic of bytes by the powers of 2, which are all bytes but 0. */
    private static final class Field {
        private final int[] powers = new int[2 * BYTES];
        private final int[] logs = new int[BYTES];

        Field() {
            int value = 1;
            for (int e = 0; e < ORDER; e++) {
                // Twice in a row, so that a sum of two logs needs no remainder.
                powers[e] = value;
                powers[e + ORDER] = value;
                logs[value & 255] = e;
                value = value << 1;
                if (value >= BYTES) {
                    value = value ^ MODULUS;
                }
            }
        }

        static boolean isByte(int v) {
            return v >= 0 && v < BYTES;
        }

        int product(int a, int b) {
            if (a == 0 || b == 0) {
                return 0;
            }
            return powers[(logs[a & 255] + logs[b & 255]) & 511];
        }

        /** Callers keep b = 0 out; it is looked at here all the same, since 0 has no log. */
        int quotient(int a, int b) {
            if (a == 0 || b == 0) {
                return 0;
            }
            return powers[(logs[a & 255] + ORDER - logs[b & 255]) & 511];
        }

        int raised(int a, int e) {
            if (e == 0) {
                return 1;
            }
            return a == 0 ? 0 : powerOfTwo(logs[a & 255] * Math.floorMod(e, ORDER));
        }

        int powerOfTwo(int e) {
            int rest = e % ORDER;
            return powers[rest < 0 ? rest + ORDER : rest];
        }

        int logOf(int a) {
            return logs[a & 255];
        }

        /** The value of the polynomial whose part i stands before point^i. */
        int valueOf(int[] parts, int many, int point) {
            int value = 0;
            for (int i = Math.min(many, parts.length) - 1; i >= 0; i--) {
                value = product(value, point) ^ parts[i];
            }
            return value;
        }
    }

    /** A word of a code: its bytes, which of them are lost, and the code itself. */
    private static final class Word {
        private final Field field;
        final int[] bytes = new int[MOST_PLACES];
        final boolean[] lost = new boolean[MOST_PLACES];
        final int[] factors = new int[MOST_REPAIRS + 1];
        int lostCount;
        int data;
        int repairs;
        int first;

        Word(Field field) {
            this.field = field;
            shape(1, 0, 0);
        }

        /** Callers have seen to it that n, k and b are those of a code. */
        void shape(int n, int k, int b) {
            data = n;
            repairs = k;
            first = b;
            Arrays.fill(bytes, 0);
            findAll();
            multiplyFactors();
        }

        private void multiplyFactors() {
            Arrays.fill(factors, 0);
            factors[0] = 1;
            for (int j = 0; j < repairs; j++) {
                int root = field.powerOfTwo(first + j);
                for (int i = j + 1; i >= 1; i--) {
                    factors[i] = factors[i - 1] ^ field.product(factors[i], root);
                }
                factors[0] = field.product(factors[0], root);
            }
        }

        int size() {
            return data + repairs;
        }

        boolean hasPlace(int i) {
            return i >= 0 && i < size();
        }

        void findAll() {
            for (int i = 0; i < MOST_PLACES; i++) {
                lost[i] = false;
            }
            lostCount = 0;
        }

        boolean hasLostData() {
            for (int i = 0; i < data; i++) {
                if (lost[i]) {
                    return true;
                }
            }
            return false;
        }

        void take(int i, int v, boolean isLost) {
            bytes[i] = v;
            lost[i] = isLost;
            if (isLost) {
                lostCount++;
            }
        }

        /** The repair bytes are the remainder of the data, moved up, by the product of all roots' factors. */
        void fillRepairs() {
            if (repairs == 0) {
                return;
            }
            Arrays.fill(bytes, data, data + repairs, 0);
            int last = repairs - 1;
            for (int i = 0; i < data; i++) {
                int lead = bytes[i] ^ bytes[data];
                for (int j = 0; j < last; j++) {
                    bytes[data + j] = bytes[data + j + 1] ^ field.product(lead, factors[last - j]);
                }
                bytes[data + last] = field.product(lead, factors[0]);
            }
        }

        /** The value of the word for z = A^e, lost bytes as 0. */
        int valueFor(int e) {
            int root = field.powerOfTwo(e);
            int value = 0;
            for (int i = 0; i < size(); i++) {
                value = field.product(value, root) ^ (lost[i] ? 0 : bytes[i]);
            }
            return value;
        }

        /** The power of z that byte i stands before. */
        int powerAt(int i) {
            return size() - 1 - i;
        }
    }

    /** Finds the one right word that is near enough, by Berlekamp, Massey and Forney; changes nothing till told to. */
    private static final class Solver {
        private final Field field;
        private final int[] syndromes = new int[MOST_REPAIRS];
        private final int[] locator = new int[MOST_REPAIRS + 1];
        private final int[] helper = new int[MOST_REPAIRS + 1];
        private final int[] kept = new int[MOST_REPAIRS + 1];
        private final int[] evaluator = new int[MOST_REPAIRS + 1];
        /** The places in question, by numbers, and what each has to be xored with (lost ones from 0 on). */
        final int[] places = new int[MOST_REPAIRS];
        final int[] fixes = new int[MOST_REPAIRS];
        int found;

        Solver(Field field) {
            this.field = field;
        }

        /** How many places that are not lost are wrong; NONE if no right word is near enough. */
        int solve(Word word) {
            found = 0;
            if (word.lostCount > word.repairs) {
                return NONE;
            }
            readSyndromes(word);
            locateLost(word);
            int degree = locateErrors(word.repairs, word.lostCount);
            if (2 * degree - word.lostCount > word.repairs || !findPlaces(word, degree)) {
                return NONE;
            }
            findFixes(word);
            return isRightAfter(word) ? countErrors(word) : NONE;
        }

        private void readSyndromes(Word word) {
            for (int i = 0; i < word.repairs; i++) {
                syndromes[i] = word.valueFor(word.first + i);
            }
        }

        /** The locator becomes the product of (1 - X x) over the X of all lost places. */
        private void locateLost(Word word) {
            Arrays.fill(locator, 0);
            locator[0] = 1;
            int degree = 0;
            for (int i = 0; i < word.size() && degree < MOST_REPAIRS; i++) {
                if (word.lost[i]) {
                    degree++;
                    int root = field.powerOfTwo(word.powerAt(i));
                    for (int j = degree; j >= 1; j--) {
                        locator[j] = locator[j] ^ field.product(locator[j - 1], root);
                    }
                }
            }
        }

        /** Makes the locator also tell the places of errors: the degree that it should have. */
        private int locateErrors(int repairs, int lostCount) {
            System.arraycopy(locator, 0, helper, 0, locator.length);
            int degree = lostCount;
            for (int r = lostCount + 1; r <= repairs; r++) {
                int gap = discrepancy(r, degree);
                shiftHelper();
                if (gap == 0) {
                    continue;
                }
                boolean grows = 2 * degree <= r + lostCount - 1;
                if (grows) {
                    System.arraycopy(locator, 0, kept, 0, locator.length);
                }
                addHelper(gap);
                if (grows) {
                    degree = r - degree + lostCount;
                    keepForLater(gap);
                }
            }
            return degree;
        }

        private int discrepancy(int r, int degree) {
            int sum = 0;
            for (int j = 0; j <= degree && j < r; j++) {
                sum = sum ^ field.product(locator[j], syndromes[r - 1 - j]);
            }
            return sum;
        }

        private void shiftHelper() {
            for (int j = MOST_REPAIRS; j >= 1; j--) {
                helper[j] = helper[j - 1];
            }
            helper[0] = 0;
        }

        private void addHelper(int gap) {
            for (int j = 0; j <= MOST_REPAIRS; j++) {
                locator[j] = locator[j] ^ field.product(gap, helper[j]);
            }
        }

        private void keepForLater(int gap) {
            for (int j = 0; j <= MOST_REPAIRS; j++) {
                helper[j] = field.quotient(kept[j], gap);
            }
        }

        /** Whether the locator has just as many roots at places of the word as its degree. */
        private boolean findPlaces(Word word, int degree) {
            for (int i = 0; i < word.size(); i++) {
                int point = field.powerOfTwo(-word.powerAt(i));
                if (field.valueOf(locator, degree + 1, point) == 0) {
                    if (found >= degree || found >= MOST_REPAIRS) {
                        return false;
                    }
                    places[found] = i;
                    found++;
                }
            }
            return found == degree;
        }

        private void findFixes(Word word) {
            for (int j = 0; j < found; j++) {
                evaluator[j] = discrepancy(j + 1, found);
            }
            for (int j = 0; j < found; j++) {
                int power = word.powerAt(places[j]);
                int point = field.powerOfTwo(-power);
                int ratio = field.quotient(field.valueOf(evaluator, found, point), slopeAt(point));
                fixes[j] = field.product(ratio, field.powerOfTwo(power * (1 - word.first)));
            }
        }

        /** The locator's derivative: in this field the even powers have none. */
        private int slopeAt(int point) {
            int square = field.product(point, point);
            int value = 0;
            for (int i = MOST_REPAIRS - 1; i >= 1; i -= 2) {
                value = field.product(value, square) ^ locator[i];
            }
            return value;
        }

        /** The definition's own test, so that no answer rests on the search alone. */
        private boolean isRightAfter(Word word) {
            for (int i = 0; i < word.repairs; i++) {
                int sum = syndromes[i];
                for (int j = 0; j < found; j++) {
                    int power = word.powerAt(places[j]) * (word.first + i);
                    sum = sum ^ field.product(fixes[j], field.powerOfTwo(power));
                }
                if (sum != 0) {
                    return false;
                }
            }
            return true;
        }

        private int countErrors(Word word) {
            int errors = 0;
            for (int j = 0; j < found; j++) {
                if (!word.lost[places[j]] && fixes[j] != 0) {
                    errors++;
                }
            }
            return errors;
        }

        boolean alters(int place) {
            for (int j = 0; j < found; j++) {
                if (places[j] == place && fixes[j] != 0) {
                    return true;
                }
            }
            return false;
        }

        int byteAfter(Word word, int j) {
            int place = places[j];
            return (word.lost[place] ? 0 : word.bytes[place]) ^ fixes[j];
        }

        void settle(Word word) {
            for (int j = 0; j < found; j++) {
                word.bytes[places[j]] = byteAfter(word, j);
            }
            word.findAll();
        }
    }

    /** What the latest repair that could be done has changed. */
    private static final class Changes {
        final int[] places = new int[MOST_REPAIRS];
        final int[] differences = new int[MOST_REPAIRS];
        int count;

        void forgetAll() {
            count = 0;
        }

        void note(int place, int difference) {
            if (difference != 0 && count < MOST_REPAIRS) {
                places[count] = place;
                differences[count] = difference;
                count++;
            }
        }
    }

    /** A block and, while it is laid, what was sent of it. */
    private static final class Striped {
        private final int[] block = new int[MOST_BLOCK];
        private final int[] original = new int[MOST_SENT];
        private final boolean[] lost = new boolean[MOST_SENT];
        /** One stripe at a time; it keeps the code that the block was laid by. */
        private final Word stripe;
        final int[] current = new int[MOST_SENT];
        int size;
        int stripes;
        int sentCount;

        Striped(Field field) {
            stripe = new Word(field);
        }

        void append(int v) {
            if (v != NONE && size < MOST_BLOCK) {
                block[size] = v;
                size++;
            }
        }

        void takeUp() {
            stripes = 0;
            sentCount = 0;
        }

        boolean isLaid() {
            return stripes > 0;
        }

        boolean hasSent(int i) {
            return i >= 0 && i < sentCount;
        }

        int layIn(int s, int k, int b) {
            if (s < 1 || s > MOST_STRIPES || s > size) {
                return NONE;
            }
            int longest = (size + s - 1) / s;
            if (longest > MOST_DATA || longest + k > LONGEST_WORD) {
                return NONE;
            }
            stripes = s;
            sentCount = size + s * k;
            stripe.shape(longest, k, b);
            for (int number = 0; number < s; number++) {
                layStripe(number);
            }
            return sentCount;
        }

        private void layStripe(int number) {
            for (int place = 0; place < stripe.data; place++) {
                int slot = slotOf(number, place);
                stripe.bytes[place] = slot == NONE ? 0 : block[slot];
            }
            stripe.fillRepairs();
            storeStripe(number);
            for (int place = 0; place < stripe.size(); place++) {
                int slot = slotOf(number, place);
                if (slot != NONE) {
                    original[slot] = current[slot];
                }
            }
        }

        /** Where a stripe's place is among what was sent; NONE for the 0 behind a shorter stripe. */
        private int slotOf(int number, int place) {
            if (place >= stripe.data) {
                return size + (place - stripe.data) * stripes + number;
            }
            int slot = place * stripes + number;
            return slot < size ? slot : NONE;
        }

        private void storeStripe(int number) {
            for (int place = 0; place < stripe.size(); place++) {
                int slot = slotOf(number, place);
                if (slot != NONE) {
                    current[slot] = stripe.bytes[place];
                    lost[slot] = false;
                }
            }
        }

        private void loadStripe(int number) {
            stripe.findAll();
            for (int place = 0; place < stripe.size(); place++) {
                int slot = slotOf(number, place);
                if (slot == NONE) {
                    stripe.take(place, 0, false);
                } else {
                    stripe.take(place, current[slot], lost[slot]);
                }
            }
        }

        /** Callers have seen to it that all these bytes were sent. */
        void harm(int from, int many, int v) {
            for (int i = from; i < from + many; i++) {
                if (v == NONE) {
                    lost[i] = true;
                } else {
                    current[i] = current[i] ^ v;
                }
            }
        }

        int mendAll(Solver solver) {
            int sum = 0;
            for (int number = 0; number < stripes; number++) {
                int errors = mendStripe(number, solver);
                if (errors == NONE) {
                    return -2 - number;
                }
                sum += errors;
            }
            return sum;
        }

        private int mendStripe(int number, Solver solver) {
            loadStripe(number);
            int errors = solver.solve(stripe);
            int end = stripe.data - 1;
            boolean isShorter = slotOf(number, end) == NONE;
            if (errors == NONE || (isShorter && solver.alters(end))) {
                return NONE;
            }
            solver.settle(stripe);
            storeStripe(number);
            return errors;
        }

        int countWrong() {
            int count = 0;
            for (int i = 0; i < sentCount; i++) {
                if (lost[i] || current[i] != original[i]) {
                    count++;
                }
            }
            return count;
        }
    }

    /** Shares that are told, and the polynomials through the least of them. */
    private static final class Sharing {
        private final Field field;
        private final int[] values = new int[BYTES * MOST_WIDTH];
        private final int[] base = new int[MOST_NEEDED];
        private final int[] weights = new int[MOST_NEEDED];
        private final int[] parts = new int[MOST_NEEDED];
        private int lastApart;
        private int needed;
        private int width;
        final boolean[] told = new boolean[BYTES];
        int count;

        Sharing(Field field) {
            this.field = field;
            start(1, 1);
        }

        void start(int d, int w) {
            needed = d;
            width = w;
            count = 0;
            for (int x = 0; x < BYTES; x++) {
                told[x] = false;
            }
        }

        boolean hasPlace(int i) {
            return i >= 0 && i < width;
        }

        void tell(int x, int i, int v) {
            int row = x * MOST_WIDTH;
            if (!told[x]) {
                Arrays.fill(values, row, row + MOST_WIDTH, 0);
                told[x] = true;
                count++;
            }
            values[row + i] = v;
        }

        /** Takes the told shares with the least numbers, but for one: whether there are enough. */
        boolean chooseBase(int without) {
            int many = 0;
            for (int x = 0; x < BYTES && many < needed; x++) {
                if (told[x] && x != without) {
                    base[many] = x;
                    many++;
                }
            }
            if (many < needed) {
                return false;
            }
            weighBase();
            return true;
        }

        private void weighBase() {
            for (int j = 0; j < needed; j++) {
                int product = 1;
                for (int m = 0; m < needed; m++) {
                    if (m != j) {
                        product = field.product(product, base[j] ^ base[m]);
                    }
                }
                weights[j] = field.quotient(1, product);
            }
        }

        /** How much of each share of the base is in share x. */
        void aimAt(int x) {
            int all = 1;
            for (int j = 0; j < needed; j++) {
                all = field.product(all, x ^ base[j]);
            }
            for (int j = 0; j < needed; j++) {
                if (base[j] == x) {
                    parts[j] = 1;
                } else {
                    parts[j] = field.quotient(field.product(all, weights[j]), x ^ base[j]);
                }
            }
        }

        /** Place i of the share that was aimed at. */
        int valueOf(int i) {
            int sum = 0;
            for (int j = 0; j < needed; j++) {
                sum = sum ^ field.product(parts[j], values[base[j] * MOST_WIDTH + i]);
            }
            return sum;
        }

        private boolean fits(int x) {
            aimAt(x);
            for (int i = 0; i < width; i++) {
                if (valueOf(i) != values[x * MOST_WIDTH + i]) {
                    return false;
                }
            }
            return true;
        }

        /** Also keeps the last one that is apart. */
        int countApart() {
            int many = 0;
            for (int x = 0; x < BYTES; x++) {
                if (told[x] && !fits(x)) {
                    many++;
                    lastApart = x;
                }
            }
            return many;
        }

        /** A share beyond the base can be left out only if it alone is apart: so just the base is tried out. */
        int findOdd() {
            int many = countApart();
            if (many == 0) {
                return BYTES;
            }
            int tried = 0;
            for (int x = 0; x < BYTES && tried < needed; x++) {
                if (told[x]) {
                    tried++;
                    if (agreeWithout(x)) {
                        return x;
                    }
                }
            }
            return many == 1 ? lastApart : NONE;
        }

        private boolean agreeWithout(int left) {
            // The one that was apart comes first: it nearly always tells, and spares the others.
            if (!chooseBase(left) || !fits(lastApart)) {
                return false;
            }
            for (int x = 0; x < BYTES; x++) {
                if (told[x] && x != left && !fits(x)) {
                    return false;
                }
            }
            return true;
        }
    }
}
