import java.util.Random;

/** All promises from 6 on, called in any order, with sound and unsound arguments: what one call leaves to the next. */
public final class MixedRunsTest {
    private static final Check check = new Check();
    private static final int[] ODD_ONES = {-1, -2, 0, 1, 2, 15, 16, 17, 20, 21, 40, 41, 100, 101, 200, 201, 239, 240, 254,
        255, 256, 800, 801, 1439, 1440, Integer.MAX_VALUE, Integer.MAX_VALUE - 1, Integer.MIN_VALUE, Integer.MIN_VALUE + 1};

    public static void main(String[] args) {
        for (int run = 0; run < 400; run++) {
            Random random = new Random(1000 + run);
            Pair pair = new Pair(check, "mixed run " + run);
            int wild = run % 3 == 0 ? 6 : 40;
            while (pair.callsLeft() > 0) {
                call(pair, new Arguments(random, wild), random.nextInt(100));
            }
        }
        check.end();
    }

    /** Numbers below a bound, and now and then one of any kind. */
    private static final class Arguments {
        private final Random random;
        private final int wild;

        Arguments(Random random, int wild) {
            this.random = random;
            this.wild = wild;
        }

        int below(int bound) {
            if (random.nextInt(wild) == 0) {
                return random.nextInt(4) == 0 ? random.nextInt() : ODD_ONES[random.nextInt(ODD_ONES.length)];
            }
            return random.nextInt(bound);
        }

        int byteOrNone() {
            return random.nextInt(4) == 0 ? -1 : below(256);
        }
    }

    private static void call(Pair pair, Arguments a, int kind) {
        if (kind < 40) {
            callWord(pair, a, kind);
        } else if (kind < 70) {
            callBlock(pair, a, kind - 40);
        } else {
            callShares(pair, a, kind - 70);
        }
    }

    private static void callWord(Pair pair, Arguments a, int kind) {
        switch (kind) {
            case 0 -> pair.code(a.below(12), a.below(10), a.below(255));
            case 1, 2, 3, 4 -> pair.put(a.below(14), a.below(256));
            case 5, 6 -> pair.put(a.below(14), a.below(2));
            case 7, 8, 9, 10 -> pair.lose(a.below(14));
            case 11, 12, 13, 14 -> pair.encode();
            case 15, 16, 17, 18 -> pair.syndrome(a.below(10));
            case 19, 20 -> pair.generator(a.below(10));
            case 21, 22, 23, 24, 25 -> pair.at(a.below(20));
            case 26, 27, 28, 29 -> pair.changed(a.below(5), a.below(2));
            default -> pair.repair();
        }
    }

    private static void callBlock(Pair pair, Arguments a, int kind) {
        switch (kind) {
            case 0 -> pair.block(a.byteOrNone(), a.byteOrNone(), a.byteOrNone(), a.byteOrNone());
            case 1 -> pair.wipe();
            case 2 -> {
                for (int i = 0; i < 3 && pair.callsLeft() > 0; i++) {
                    pair.block(a.byteOrNone(), a.byteOrNone(), a.byteOrNone(), a.byteOrNone());
                }
            }
            case 3, 4, 5, 6 -> pair.lay(a.below(5));
            case 7, 8, 9, 10, 11 -> pair.damage(a.below(20), a.below(5), a.byteOrNone());
            case 12, 13, 14, 15 -> pair.damage(a.below(20), 1, a.below(256));
            case 16, 17, 18, 19, 20 -> pair.sent(a.below(30));
            case 21, 22, 23, 24 -> pair.wrong();
            default -> pair.mend();
        }
    }

    private static void callShares(Pair pair, Arguments a, int kind) {
        switch (kind) {
            case 0 -> pair.shares(a.below(5), a.below(4));
            case 1, 2, 3, 4, 5, 6, 7, 8 -> pair.share(a.below(9), a.below(2), a.below(3));
            case 9, 10, 11 -> pair.share(a.below(256), a.below(4), a.below(256));
            case 12, 13, 14, 15, 16 -> pair.drop(a.below(10));
            case 17, 18, 19, 20, 21 -> pair.made(a.below(256), a.below(3));
            case 22, 23, 24 -> pair.apart();
            default -> pair.odd();
        }
    }
}
