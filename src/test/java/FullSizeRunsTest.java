import java.util.Random;

/** Codes, blocks and shares of every size against the model, with about as much damage as can be put right. */
public final class FullSizeRunsTest {
    private static final Check check = new Check();
    /** As many calls as the longest step may take; with fewer left a run ends. */
    private static final int LONGEST_STEP = 120;

    private final Random random;
    private final Pair pair;
    private int data = 1;
    private int repairs = 0;
    private int size = 0;
    private int stripes = 1;
    private int sent = 0;
    private int needed = 1;
    private int width = 1;

    private FullSizeRunsTest(int run) {
        random = new Random(77000 + run);
        pair = new Pair(check, "full size run " + run);
    }

    public static void main(String[] args) {
        for (int run = 0; run < 600; run++) {
            new FullSizeRunsTest(run).play(run % 4);
        }
        check.end();
    }

    private void play(int kind) {
        while (pair.callsLeft() > LONGEST_STEP) {
            switch (kind == 3 ? random.nextInt(3) : kind) {
                case 0 -> wordStep();
                case 1 -> blockStep();
                default -> sharesStep();
            }
        }
    }

    /** Small ones more often than large ones. */
    private int upTo(int most) {
        return random.nextInt(3) == 0 ? random.nextInt(most + 1) : random.nextInt(Math.min(most, 8) + 1);
    }

    private int byteOrNone() {
        return random.nextInt(3) == 0 ? ReedSets.NONE : random.nextInt(256);
    }

    private void chooseCode() {
        data = 1 + upTo(199);
        repairs = upTo(40);
        pair.code(data, repairs, random.nextInt(255));
    }

    private int place() {
        return random.nextInt(data + repairs);
    }

    private void wordStep() {
        if (random.nextInt(4) == 0) {
            chooseCode();
        }
        for (int i = 0; i < 10; i++) {
            pair.put(place(), random.nextInt(256));
        }
        pair.encode();
        int lost = random.nextInt(repairs + 1);
        int errors = (repairs - lost) / 2 + (random.nextInt(3) == 0 ? 1 : 0);
        for (int i = 0; i < lost; i++) {
            pair.lose(place());
        }
        for (int i = 0; i < errors; i++) {
            pair.put(place(), random.nextInt(256));
        }
        pair.syndrome(random.nextInt(repairs + 1));
        pair.generator(random.nextInt(repairs + 2));
        pair.repair();
        for (int i = 0; i < 5; i++) {
            pair.changed(random.nextInt(lost + errors + 1), random.nextInt(2));
            pair.at(place());
        }
    }

    private void blockStep() {
        int more = random.nextInt(3) == 0 ? upTo(80) : 0;
        for (int i = 0; i < more; i++) {
            size = Math.max(size, pair.block(byteOrNone(), byteOrNone(), byteOrNone(), byteOrNone()));
        }
        if (random.nextInt(4) == 0) {
            chooseCode();
        }
        if (random.nextInt(2) == 0) {
            stripes = 1 + random.nextInt(Math.max(1, Math.min(16, size)));
            sent = Math.max(sent, pair.lay(stripes));
        }
        int bursts = random.nextInt(4);
        for (int i = 0; i < bursts; i++) {
            int many = 1 + random.nextInt(Math.min(100, 1 + repairs * stripes / 2));
            pair.damage(random.nextInt(sent + 1), many, byteOrNone());
        }
        for (int i = 0; i < 4; i++) {
            pair.damage(random.nextInt(sent + 1), 1, byteOrNone());
        }
        pair.wrong();
        pair.mend();
        pair.wrong();
        for (int i = 0; i < 4; i++) {
            pair.sent(random.nextInt(sent + 1));
        }
    }

    private void sharesStep() {
        if (random.nextInt(6) == 0) {
            needed = 1 + upTo(19);
            width = 1 + upTo(15);
            pair.shares(needed, width);
        }
        int numbers = random.nextBoolean() ? 256 : 2 * needed + 2;
        for (int i = 0; i < 3; i++) {
            tellAsMade(random.nextInt(numbers));
        }
        if (random.nextInt(4) == 0) {
            pair.share(random.nextInt(numbers), random.nextInt(width), random.nextInt(256));
        }
        pair.apart();
        pair.odd();
        pair.drop(random.nextInt(numbers));
        pair.odd();
    }

    private void tellAsMade(int x) {
        for (int i = 0; i < width; i++) {
            int v = pair.made(x, i);
            pair.share(x, i, v == ReedSets.NONE ? random.nextInt(256) : v);
        }
    }
}
