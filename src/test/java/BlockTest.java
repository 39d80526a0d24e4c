import java.util.Random;

/** Promises 15 to 21: a block. */
public final class BlockTest {
    private static final Check check = new Check();
    private static final int NONE = ReedSets.NONE;
    private static final int FAR = Integer.MAX_VALUE;
    private static final int LOW = Integer.MIN_VALUE;

    public static void main(String[] args) {
        growing();
        mostBytes();
        takenUp();
        layEdges();
        order();
        damageEdges();
        lostAndWrong();
        firstThatCannot();
        for (int v = 1; v < 256; v++) {
            unsentZeros(v);
        }
        keepsItsCode();
        againstTheModel();
        check.end();
    }

    private static void growing() {
        ReedSets x = new ReedSets();
        check.due("block(NONE, 1, NONE, 2)", x.block(NONE, 1, NONE, 2), 2);
        check.due("block(0, 255, 7, 8)", x.block(0, 255, 7, 8), 6);
        check.due("block(NONE x 4)", x.block(NONE, NONE, NONE, NONE), 6);
        int[] noBytes = {256, -2, FAR, LOW};
        for (int no : noBytes) {
            check.due("block(" + no + ", 1, 1, 1)", x.block(no, 1, 1, 1), NONE);
            check.due("block(1, " + no + ", 1, 1)", x.block(1, no, 1, 1), NONE);
            check.due("block(1, 1, " + no + ", 1)", x.block(1, 1, no, 1), NONE);
            check.due("block(1, 1, 1, " + no + ")", x.block(1, 1, 1, no), NONE);
        }
        check.due("lay(1)", x.lay(1), 6);
        int[] due = {1, 2, 0, 255, 7, 8};
        for (int i = 0; i < due.length; i++) {
            check.due("sent(" + i + ")", x.sent(i), due[i]);
        }
        check.due("block(3, NONE, NONE, 4) behind them", x.block(3, NONE, NONE, 4), 8);
        check.due("wipe()", x.wipe(), 8);
        check.due("wipe() again", x.wipe(), 0);
        check.due("block(9, NONE, NONE, NONE)", x.block(9, NONE, NONE, NONE), 1);
        x.lay(1);
        check.due("sent(0) after wipe()", x.sent(0), 9);
    }

    private static void mostBytes() {
        ReedSets x = new ReedSets();
        for (int i = 1; i <= 199; i++) {
            check.due("block number " + i, x.block(i, 1, 2, 3), 4 * i);
        }
        check.due("up to 799", x.block(1, 2, 3, NONE), 799);
        check.due("two more are too many", x.block(NONE, 1, NONE, 2), NONE);
        check.due("two more are too many", x.block(1, 2, NONE, NONE), NONE);
        check.due("two more are too many", x.block(NONE, NONE, 1, 2), NONE);
        check.due("two more are too many", x.block(1, NONE, 2, NONE), NONE);
        check.due("two more are too many", x.block(NONE, 1, 2, NONE), NONE);
        check.due("and nothing came behind", x.block(NONE, NONE, NONE, NONE), 799);
        check.due("up to 800", x.block(NONE, NONE, NONE, 77), 800);
        check.due("none more", x.block(NONE, NONE, NONE, NONE), 800);
        x.code(1, 40, 0);
        check.due("lay(3): more than 200 data", x.lay(3), NONE);
        check.due("not laid", x.sent(0), NONE);
        check.due("lay(4)", x.lay(4), 800 + 160);
        check.due("one more", x.block(1, NONE, NONE, NONE), NONE);
        check.due("still laid: sent(799)", x.sent(799), 77);
        check.due("lay(16)", x.lay(16), 800 + 640);
        check.due("sent(1440)", x.sent(1440), NONE);
        check.due("damage(1340, 100, 1)", x.damage(1340, 100, 1), 1);
        check.due("wrong()", x.wrong(), 100);
        check.due("mend()", x.mend(), 100);
        check.due("wrong()", x.wrong(), 0);
        check.due("wipe()", x.wipe(), 800);
    }

    /** The block is not laid when bytes come behind it, or when it has none. */
    private static void takenUp() {
        ReedSets x = new ReedSets();
        x.block(1, 2, 3, 4);
        check.due("sent(0), not laid", x.sent(0), NONE);
        check.due("damage(0, 1, 1), not laid", x.damage(0, 1, 1), NONE);
        check.due("mend(), not laid", x.mend(), NONE);
        check.due("wrong(), not laid", x.wrong(), NONE);
        x.lay(2);
        check.due("sent(0)", x.sent(0), 1);
        check.due("block(256, ..) is refused", x.block(256, 1, 1, 1), NONE);
        check.due("sent(0): still laid", x.sent(0), 1);
        check.due("lay(5) is refused", x.lay(5), NONE);
        check.due("mend(): still laid", x.mend(), 0);
        x.block(5, NONE, NONE, NONE);
        check.due("sent(0) after block()", x.sent(0), NONE);
        check.due("mend() after block()", x.mend(), NONE);
        check.due("wrong() after block()", x.wrong(), NONE);
        check.due("damage(0, 1, 1) after block()", x.damage(0, 1, 1), NONE);
        x.lay(2);
        check.due("wrong() laid again", x.wrong(), 0);
        x.block(NONE, NONE, NONE, NONE);
        check.due("wrong() after block() of no bytes", x.wrong(), NONE);
        x.lay(1);
        x.wipe();
        check.due("sent(0) after wipe()", x.sent(0), NONE);
        check.due("mend() after wipe()", x.mend(), NONE);
        check.due("wrong() after wipe()", x.wrong(), NONE);
        check.due("damage(0, 1, 1) after wipe()", x.damage(0, 1, 1), NONE);
        check.due("lay(1) after wipe()", x.lay(1), NONE);
        x.block(6, 7, NONE, NONE);
        x.lay(1);
        x.damage(0, 1, 9);
        x.lay(1);
        check.due("sent(0): lay() takes the block's own byte", x.sent(0), 6);
        check.due("wrong() when laid again", x.wrong(), 0);
        x.damage(0, 2, NONE);
        x.lay(2);
        check.due("wrong(): nothing is lost when laid again", x.wrong(), 0);
    }

    private static void layEdges() {
        ReedSets x = new ReedSets();
        check.due("lay(1), no bytes", x.lay(1), NONE);
        x.block(1, 2, 3, NONE);
        check.due("lay(0)", x.lay(0), NONE);
        check.due("lay(-1)", x.lay(-1), NONE);
        check.due("lay(4): more stripes than bytes", x.lay(4), NONE);
        check.due("lay(FAR)", x.lay(FAR), NONE);
        check.due("lay(LOW)", x.lay(LOW), NONE);
        check.due("lay(3)", x.lay(3), 3);
        x.code(7, 5, 3);
        check.due("lay(3), k 5", x.lay(3), 18);
        check.due("lay(1), k 5", x.lay(1), 8);
        for (int i = 0; i < 5; i++) {
            x.block(1, 2, 3, 4);
        }
        check.due("lay(17)", x.lay(17), NONE);
        check.due("lay(16)", x.lay(16), 23 + 80);
        x.wipe();
        for (int i = 0; i < 50; i++) {
            x.block(1, 2, 3, 4);
        }
        check.due("lay(1) of 200", x.lay(1), 205);
        x.block(1, NONE, NONE, NONE);
        check.due("lay(1) of 201", x.lay(1), NONE);
        check.due("lay(2) of 201", x.lay(2), 211);
    }

    /** 5 bytes in 2 stripes, k 1, b 0: the repair byte is the xor of the data. */
    private static void order() {
        ReedSets x = new ReedSets();
        x.code(1, 1, 0);
        x.block(1, 2, 4, 8);
        x.block(16, NONE, NONE, NONE);
        check.due("lay(2)", x.lay(2), 7);
        int[] due = {1, 2, 4, 8, 16, 1 ^ 4 ^ 16, 2 ^ 8};
        for (int i = 0; i < due.length; i++) {
            check.due("sent(" + i + ")", x.sent(i), due[i]);
        }
        check.due("sent(7)", x.sent(7), NONE);
        check.due("sent(-1)", x.sent(-1), NONE);
        check.due("sent(FAR)", x.sent(FAR), NONE);
        check.due("sent(LOW)", x.sent(LOW), NONE);
        check.due("at(0): the word stays", x.at(0), 0);
        check.due("code(2, 3, 1)", x.code(2, 3, 1), 5);
        x.put(0, 1);
        x.put(1, 4);
        x.encode();
        x.wipe();
        x.block(1, 2, 4, NONE);
        check.due("lay(2), k 3", x.lay(2), 9);
        for (int r = 0; r < 3; r++) {
            check.due("repair byte " + r + " of stripe 0", x.sent(3 + 2 * r), x.at(2 + r));
        }
        x.put(0, 2);
        x.put(1, 0);
        x.encode();
        for (int r = 0; r < 3; r++) {
            check.due("repair byte " + r + " of stripe 1, a 0 behind", x.sent(4 + 2 * r), x.at(2 + r));
        }
    }

    private static ReedSets laid(int bytes, int k, int s) {
        ReedSets x = new ReedSets();
        x.code(1, k, 0);
        for (int i = 0; i < bytes; i++) {
            x.block(i & 255, NONE, NONE, NONE);
        }
        x.lay(s);
        return x;
    }

    private static void damageEdges() {
        ReedSets x = laid(150, 2, 3);
        check.due("damage(156, 1, 1)", x.damage(156, 1, 1), NONE);
        check.due("damage(155, 2, 1)", x.damage(155, 2, 1), NONE);
        check.due("damage(57, 100, 1)", x.damage(57, 100, 1), NONE);
        check.due("damage(-1, 1, 1)", x.damage(-1, 1, 1), NONE);
        check.due("damage(-1, 2, NONE)", x.damage(-1, 2, NONE), NONE);
        check.due("damage(0, 0, 1)", x.damage(0, 0, 1), NONE);
        check.due("damage(0, -1, 1)", x.damage(0, -1, 1), NONE);
        check.due("damage(0, 101, 1)", x.damage(0, 101, 1), NONE);
        check.due("damage(0, FAR, 1)", x.damage(0, FAR, 1), NONE);
        check.due("damage(0, LOW, 1)", x.damage(0, LOW, 1), NONE);
        check.due("damage(FAR, 100, 1)", x.damage(FAR, 100, 1), NONE);
        check.due("damage(LOW, 1, 1)", x.damage(LOW, 1, 1), NONE);
        check.due("damage(0, 1, 256)", x.damage(0, 1, 256), NONE);
        check.due("damage(0, 1, -2)", x.damage(0, 1, -2), NONE);
        check.due("damage(0, 1, FAR)", x.damage(0, 1, FAR), NONE);
        check.due("wrong(): nothing is", x.wrong(), 0);
        check.due("damage(0, 100, 0)", x.damage(0, 100, 0), 1);
        check.due("wrong(): xor 0 does nothing", x.wrong(), 0);
        check.due("damage(56, 100, 255)", x.damage(56, 100, 255), 1);
        check.due("wrong()", x.wrong(), 100);
        check.due("sent(55)", x.sent(55), 55);
        check.due("sent(56)", x.sent(56), 56 ^ 255);
        check.due("sent(149)", x.sent(149), 149 ^ 255);
        check.due("damage(56, 1, 255) again", x.damage(56, 1, 255), 1);
        check.due("wrong()", x.wrong(), 99);
        check.due("damage(155, 1, NONE)", x.damage(155, 1, NONE), 1);
    }

    private static void lostAndWrong() {
        ReedSets x = laid(6, 2, 2);
        x.damage(2, 2, NONE);
        check.due("wrong(): two lost", x.wrong(), 2);
        check.due("sent(2), lost", x.sent(2), 2);
        x.damage(2, 1, 5);
        check.due("sent(2), lost and xored", x.sent(2), 7);
        check.due("wrong(): it counts once", x.wrong(), 2);
        x.damage(2, 1, NONE);
        check.due("wrong(): lost twice", x.wrong(), 2);
        x.damage(2, 1, 5);
        check.due("wrong(): the byte is as laid, but lost", x.wrong(), 2);
        x.damage(2, 1, 9);
        check.due("mend(): lost ones are no errors", x.mend(), 0);
        check.due("sent(2)", x.sent(2), 2);
        check.due("wrong()", x.wrong(), 0);
        x.damage(0, 2, 3);
        check.due("mend(): one in each stripe", x.mend(), 2);
        check.due("sent(0)", x.sent(0), 0);
        check.due("sent(1)", x.sent(1), 1);
        check.due("mend(): nothing to do", x.mend(), 0);
        ReedSets y = laid(4, 0, 2);
        y.damage(0, 3, 8);
        check.due("k 0: mend()", y.mend(), 0);
        check.due("k 0: wrong()", y.wrong(), 3);
        check.due("k 0: sent(0)", y.sent(0), 8);
        y.damage(1, 1, NONE);
        check.due("k 0: mend() with a lost one in stripe 1", y.mend(), -3);
    }

    private static void firstThatCannot() {
        ReedSets x = laid(12, 2, 4);
        x.damage(0, 4, 1);
        x.damage(6, 1, 1);
        x.damage(10, 1, NONE);
        check.due("mend(): stripe 2 cannot be", x.mend(), -4);
        check.due("wrong(): 0 and 1 are mended, 3 is not looked at", x.wrong(), 4);
        check.due("sent(0)", x.sent(0), 0);
        check.due("sent(1)", x.sent(1), 1);
        check.due("sent(2)", x.sent(2), 3);
        check.due("sent(3)", x.sent(3), 2);
        check.due("mend() again", x.mend(), -4);
        x.damage(6, 1, 1);
        check.due("mend(): one error and one lost are too many", x.mend(), -4);
        x.damage(2, 1, 1);
        check.due("mend(): one lost, and stripe 3's error", x.mend(), 1);
        check.due("wrong()", x.wrong(), 0);
        ReedSets y = laid(12, 1, 4);
        y.damage(0, 1, 1);
        check.due("mend(): stripe 0 cannot be", y.mend(), -2);
        ReedSets z = laid(32, 1, 16);
        z.damage(15, 1, 1);
        check.due("mend(): stripe 15 cannot be", z.mend(), -17);
    }

    /** Stripe 1 of 3 bytes in 2 stripes has a 0 behind that was not sent. */
    private static void unsentZeros(int v) {
        ReedSets x = new ReedSets();
        x.code(2, 2, 0);
        x.put(0, 0);
        x.put(1, v);
        x.encode();
        int[] near = {x.at(2), x.at(3)};
        x.block(0, 0, 0, NONE);
        check.due("lay(2)", x.lay(2), 7);
        x.damage(4, 1, near[0]);
        x.damage(6, 1, near[1]);
        check.due("mend(): the nearest has " + v + " where the 0 is", x.mend(), -3);
        check.due("sent(4) is as it was", x.sent(4), near[0]);
        check.due("wrong()", x.wrong(), 2);
        x.damage(4, 1, NONE);
        x.damage(6, 1, NONE);
        check.due("mend(): both lost", x.mend(), 0);
        check.due("wrong()", x.wrong(), 0);
        x.damage(3, 1, near[0]);
        x.damage(5, 1, near[1]);
        check.due("mend(): stripe 0 has a byte there", x.mend(), 1);
        check.due("sent(2)", x.sent(2), v);
        check.due("wrong(): a right word, but another", x.wrong(), 3);
    }

    /** What was laid is mended by the code it was laid by. */
    private static void keepsItsCode() {
        ReedSets x = laid(10, 4, 2);
        check.due("code(3, 1, 7)", x.code(3, 1, 7), 4);
        x.damage(0, 4, 9);
        check.due("mend()", x.mend(), 4);
        check.due("wrong()", x.wrong(), 0);
        check.due("lay(2) by the new code", x.lay(2), 12);
    }

    private static void againstTheModel() {
        Random random = new Random(31);
        for (int run = 0; run < 500; run++) {
            Pair pair = new Pair(check, "block run " + run);
            int m = 1 + random.nextInt(run % 9 == 0 ? 800 : 60);
            int k = random.nextInt(run % 3 == 0 ? 41 : 7);
            pair.code(1 + random.nextInt(200), k, random.nextInt(255));
            for (int i = 0; i < m; i += 4) {
                int first = random.nextInt(256);
                pair.block(first, byteIf(i + 1 < m, random), byteIf(i + 2 < m, random), byteIf(i + 3 < m, random));
            }
            int sent = pair.lay(1 + random.nextInt(17));
            hit(pair, random, sent, k);
        }
    }

    private static int byteIf(boolean is, Random random) {
        return is ? random.nextInt(256) : NONE;
    }

    private static void hit(Pair pair, Random random, int sent, int k) {
        for (int round = 0; round < 4; round++) {
            for (int i = random.nextInt(k + 2); i > 0; i--) {
                int many = random.nextInt(4) == 0 ? 1 + random.nextInt(20) : 1;
                pair.damage(random.nextInt(Math.max(1, sent)), many, random.nextInt(3) == 0 ? NONE : random.nextInt(256));
            }
            pair.wrong();
            pair.mend();
            pair.wrong();
            for (int i = 0; i < 15; i++) {
                pair.sent(random.nextInt(Math.max(1, sent) + 1));
            }
        }
    }
}
