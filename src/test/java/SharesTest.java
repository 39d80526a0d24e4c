import java.util.Random;

/** Promises 22 to 27: shares. */
public final class SharesTest {
    private static final Check check = new Check();
    private static final int NONE = ReedSets.NONE;
    private static final int FAR = Integer.MAX_VALUE;
    private static final int LOW = Integer.MIN_VALUE;

    public static void main(String[] args) {
        starting();
        telling();
        dropping();
        making();
        countingApart();
        findingOdd();
        mostShares();
        againstTheModel();
        check.end();
    }

    private static void starting() {
        ReedSets x = new ReedSets();
        check.due("shares(1, 1)", x.shares(1, 1), 1);
        check.due("shares(20, 16)", x.shares(20, 16), 1);
        check.due("share(0, 15, 1)", x.share(0, 15, 1), 1);
        int[][] none = {{0, 1}, {21, 1}, {-1, 1}, {1, 0}, {1, 17}, {1, -1}, {FAR, 1}, {LOW, 1}, {1, FAR}, {1, LOW}};
        for (int[] s : none) {
            check.due("shares(" + s[0] + ", " + s[1] + ")", x.shares(s[0], s[1]), NONE);
        }
        check.due("share(1, 15, 1): all is kept", x.share(1, 15, 1), 2);
        check.due("shares(20, 16): none is told then", x.shares(20, 16), 1);
        check.due("share(1, 0, 1)", x.share(1, 0, 1), 1);
        check.due("drop(0)", x.drop(0), NONE);
        x.shares(1, 2);
        x.share(5, 0, 8);
        check.due("made(5, 1): other places are 0", x.made(5, 1), 0);
    }

    private static void telling() {
        ReedSets x = new ReedSets();
        x.shares(1, 3);
        check.due("share(255, 2, 255)", x.share(255, 2, 255), 1);
        check.due("share(255, 1, 4)", x.share(255, 1, 4), 1);
        check.due("made(255, 0)", x.made(255, 0), 0);
        check.due("made(255, 1)", x.made(255, 1), 4);
        check.due("made(255, 2)", x.made(255, 2), 255);
        check.due("share(255, 2, 0)", x.share(255, 2, 0), 1);
        check.due("made(255, 2)", x.made(255, 2), 0);
        check.due("share(0, 0, 0)", x.share(0, 0, 0), 2);
        int[][] none = {
            {256, 0, 0}, {-1, 0, 0}, {FAR, 0, 0}, {LOW, 0, 0}, {1, 3, 0}, {1, -1, 0}, {1, FAR, 0}, {1, LOW, 0},
            {1, 0, 256}, {1, 0, -1}, {1, 0, FAR}, {1, 0, LOW}
        };
        for (int[] s : none) {
            check.due("share(" + s[0] + ", " + s[1] + ", " + s[2] + ")", x.share(s[0], s[1], s[2]), NONE);
        }
        check.due("drop(1): it was not told", x.drop(1), NONE);
        check.due("share(1, 0, 0)", x.share(1, 0, 0), 3);
    }

    private static void dropping() {
        ReedSets x = new ReedSets();
        x.shares(1, 2);
        x.share(3, 0, 7);
        x.share(3, 1, 9);
        x.share(4, 1, 1);
        check.due("drop(3)", x.drop(3), 1);
        check.due("drop(3) again", x.drop(3), NONE);
        check.due("drop(256)", x.drop(256), NONE);
        check.due("drop(-1)", x.drop(-1), NONE);
        check.due("drop(FAR)", x.drop(FAR), NONE);
        check.due("drop(LOW)", x.drop(LOW), NONE);
        check.due("made(3, 1) by share 4", x.made(3, 1), 1);
        check.due("share(3, 0, 5) again", x.share(3, 0, 5), 2);
        check.due("made(3, 0)", x.made(3, 0), 5);
        check.due("made(3, 1): it is 0, not 9", x.made(3, 1), 0);
        check.due("drop(4)", x.drop(4), 1);
        check.due("drop(3)", x.drop(3), 0);
        check.due("made(3, 0), none told", x.made(3, 0), NONE);
    }

    /** The line 5 + 3 x, told at 1 and 2. */
    private static void making() {
        ReedSets x = new ReedSets();
        x.shares(2, 2);
        x.share(1, 1, 5 ^ 3);
        check.due("made(1, 1): fewer than d are told", x.made(1, 1), NONE);
        x.share(2, 1, 5 ^ 6);
        check.due("made(0, 1)", x.made(0, 1), 5);
        check.due("made(1, 1)", x.made(1, 1), 5 ^ 3);
        check.due("made(2, 1)", x.made(2, 1), 5 ^ 6);
        check.due("made(4, 1)", x.made(4, 1), 5 ^ 12);
        check.due("made(255, 1)", x.made(255, 1), 5 ^ FieldTest.product(3, 255));
        check.due("made(255, 0)", x.made(255, 0), 0);
        check.due("made(256, 0)", x.made(256, 0), NONE);
        check.due("made(-1, 0)", x.made(-1, 0), NONE);
        check.due("made(FAR, 0)", x.made(FAR, 0), NONE);
        check.due("made(LOW, 0)", x.made(LOW, 0), NONE);
        check.due("made(0, 2)", x.made(0, 2), NONE);
        check.due("made(0, -1)", x.made(0, -1), NONE);
        check.due("made(0, FAR)", x.made(0, FAR), NONE);
        check.due("made(0, LOW)", x.made(0, LOW), NONE);
        x.share(9, 1, 77);
        check.due("made(9, 1) by the least numbers, not as told", x.made(9, 1), 5 ^ FieldTest.product(3, 9));
        x.share(0, 1, 0);
        check.due("made(2, 1) by shares 0 and 1", x.made(2, 1), FieldTest.product(5 ^ 3, 2));
        x.drop(0);
        check.due("made(0, 1) by shares 1 and 2 again", x.made(0, 1), 5);
    }

    private static void countingApart() {
        ReedSets x = new ReedSets();
        x.shares(2, 2);
        x.share(1, 0, 7);
        check.due("apart(): fewer than d", x.apart(), NONE);
        x.share(2, 0, 7);
        check.due("apart(): just d", x.apart(), 0);
        x.share(3, 0, 7);
        check.due("apart(): it fits", x.apart(), 0);
        x.share(4, 0, 8);
        x.share(5, 0, 9);
        check.due("apart(): two", x.apart(), 2);
        x.share(5, 1, 1);
        check.due("apart(): both places of 5 count once", x.apart(), 2);
        x.share(3, 1, 1);
        check.due("apart(): the other place alone", x.apart(), 3);
        x.share(1, 0, 6);
        check.due("apart(): a share of the base is never apart", x.apart(), 3);
        x.shares(3, 1);
        check.due("apart(): none told", x.apart(), NONE);
    }

    private static void findingOdd() {
        ReedSets x = new ReedSets();
        x.shares(2, 1);
        x.share(10, 0, 7);
        check.due("odd(): fewer than d", x.odd(), NONE);
        x.share(20, 0, 7);
        check.due("odd(): just d", x.odd(), 256);
        x.share(30, 0, 8);
        check.due("odd(): d + 1, any could be left out", x.odd(), 10);
        x.share(40, 0, 7);
        check.due("odd(): 30, beyond the base", x.odd(), 30);
        x.share(30, 0, 7);
        check.due("odd(): all agree", x.odd(), 256);
        x.share(20, 0, 1);
        check.due("odd(): 20, of the base", x.odd(), 20);
        x.share(20, 0, 7);
        x.share(10, 0, 1);
        check.due("odd(): 10, the first", x.odd(), 10);
        x.share(40, 0, 1);
        check.due("odd(): two are odd", x.odd(), NONE);
        x.share(10, 0, 7);
        check.due("odd(): 40, the last", x.odd(), 40);
        x.share(30, 0, 99);
        check.due("odd(): both beyond the base", x.odd(), NONE);
        x.drop(40);
        check.due("odd(): d + 1 again", x.odd(), 10);
        x.shares(1, 2);
        x.share(0, 0, 3);
        x.share(255, 1, 3);
        check.due("odd(): d 1, two that differ", x.odd(), 0);
        x.share(7, 1, 3);
        check.due("odd(): d 1, 0 is odd", x.odd(), 0);
        x.share(9, 0, 1);
        check.due("odd(): d 1, three kinds", x.odd(), NONE);
        x.shares(1, 2);
        x.share(1, 0, 5);
        x.share(2, 0, 5);
        x.share(3, 0, 5);
        x.share(2, 1, 1);
        check.due("odd(): by the second place alone", x.odd(), 2);
        x.share(3, 0, 6);
        check.due("odd(): another one in each place", x.odd(), NONE);
    }

    /** All 256 numbers, then d 20. */
    private static void mostShares() {
        ReedSets x = new ReedSets();
        x.shares(20, 1);
        int[] parts = new int[20];
        for (int i = 0; i < 20; i++) {
            parts[i] = 13 * i + 1 & 255;
        }
        for (int s = 255; s >= 0; s--) {
            check.due("share " + s, x.share(s, 0, Model.at(parts, s)), 256 - s);
        }
        check.due("odd() of 256", x.odd(), 256);
        check.due("apart() of 256", x.apart(), 0);
        for (int s = 0; s < 256; s += 5) {
            x.share(s, 0, Model.at(parts, s) ^ 1);
            check.due("odd() of 256 with " + s, x.odd(), s);
            x.share(s, 0, Model.at(parts, s));
        }
        x.share(254, 0, Model.at(parts, 254) ^ 3);
        x.share(255, 0, Model.at(parts, 255) ^ 2);
        check.due("odd() of 256, two odd at the end", x.odd(), NONE);
        check.due("apart() of 256, two odd at the end", x.apart(), 2);
    }

    private static void againstTheModel() {
        Random random = new Random(41);
        for (int run = 0; run < 400; run++) {
            Pair pair = new Pair(check, "shares run " + run);
            int d = 1 + random.nextInt(run % 4 == 0 ? 20 : 5);
            int w = 1 + random.nextInt(run % 4 == 1 ? 16 : 3);
            pair.shares(d, w);
            int[][] rows = new int[w][d];
            for (int[] row : rows) {
                for (int i = 0; i < d; i++) {
                    row[i] = random.nextInt(256);
                }
            }
            int[] numbers = tellSome(pair, random, rows, d);
            for (int round = 0; round < 12 && pair.callsLeft() > 12; round++) {
                disturb(pair, random, rows, numbers[random.nextInt(numbers.length)]);
                pair.apart();
                pair.odd();
                for (int i = 0; i < 5; i++) {
                    pair.made(random.nextInt(257), random.nextInt(w + 1));
                }
            }
        }
    }

    private static int[] tellSome(Pair pair, Random random, int[][] rows, int d) {
        int[] numbers = new int[d + random.nextInt(8)];
        int range = random.nextBoolean() ? 256 : Math.min(256, 2 * numbers.length + 2);
        for (int s = 0; s < numbers.length; s++) {
            numbers[s] = random.nextInt(range);
            for (int i = 0; i < rows.length && pair.callsLeft() > 90; i++) {
                pair.share(numbers[s], i, Model.at(rows[i], numbers[s]));
            }
        }
        return numbers;
    }

    private static void disturb(Pair pair, Random random, int[][] rows, int x) {
        int i = random.nextInt(rows.length);
        switch (random.nextInt(5)) {
            case 0 -> pair.drop(x);
            case 1, 2 -> pair.share(x, i, random.nextInt(256));
            default -> pair.share(x, i, Model.at(rows[i], x));
        }
    }
}
