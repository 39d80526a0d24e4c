import java.util.Random;

/** Promises 6 to 14: a word. */
public final class WordTest {
    private static final Check check = new Check();
    private static final int NONE = ReedSets.NONE;
    private static final int FAR = Integer.MAX_VALUE;
    private static final int LOW = Integer.MIN_VALUE;

    public static void main(String[] args) {
        codeEdges();
        codeRefusedChangesNothing();
        generators();
        puts();
        encoding();
        losing();
        syndromes();
        repairing();
        changes();
        changesStay();
        tinyCodesByTryingAll();
        toTheLimit();
        check.end();
    }

    private static void codeEdges() {
        ReedSets x = new ReedSets();
        check.due("code(1, 0, 0)", x.code(1, 0, 0), 1);
        check.due("code(200, 0, 0)", x.code(200, 0, 0), 200);
        check.due("code(1, 40, 0)", x.code(1, 40, 0), 41);
        check.due("code(200, 40, 254)", x.code(200, 40, 254), 240);
        check.due("at(239)", x.at(239), 0);
        check.due("at(240)", x.at(240), NONE);
        int[][] none = {
            {0, 1, 0}, {-1, 1, 0}, {201, 1, 0}, {FAR, 1, 0}, {LOW, 1, 0}, {1, -1, 0}, {1, 41, 0}, {1, FAR, 0},
            {1, LOW, 0}, {1, 1, -1}, {1, 1, 255}, {1, 1, FAR}, {1, 1, LOW}, {FAR, FAR, 0}, {215, 40, 0}
        };
        for (int[] c : none) {
            check.due("code(" + c[0] + ", " + c[1] + ", " + c[2] + ")", x.code(c[0], c[1], c[2]), NONE);
        }
        check.due("at(239) after refusals", x.at(239), 0);
        check.due("generator(40) after refusals", x.generator(40), 1);
    }

    private static void codeRefusedChangesNothing() {
        ReedSets x = new ReedSets();
        x.code(3, 2, 1);
        x.put(0, 9);
        x.lose(1);
        check.due("code(3, 41, 1)", x.code(3, 41, 1), NONE);
        check.due("at(0) is kept", x.at(0), 9);
        check.due("lose(1) is kept", x.lose(1), NONE);
        check.due("code(3, 2, 1) again", x.code(3, 2, 1), 5);
        check.due("at(0) is 0 again", x.at(0), 0);
        check.due("nothing is lost again", x.lose(1), 1);
    }

    private static void generators() {
        ReedSets x = new ReedSets();
        x.code(10, 1, 0);
        check.due("generator(0), b 0", x.generator(0), 1);
        check.due("generator(1)", x.generator(1), 1);
        x.code(10, 1, 3);
        check.due("generator(0), b 3", x.generator(0), 8);
        x.code(10, 2, 0);
        check.due("k 2: generator(0) = 1 * 2", x.generator(0), 2);
        check.due("k 2: generator(1) = 1 + 2", x.generator(1), 3);
        check.due("k 2: generator(2)", x.generator(2), 1);
        check.due("k 2: generator(3)", x.generator(3), NONE);
        check.due("k 2: generator(-1)", x.generator(-1), NONE);
        check.due("k 2: generator(FAR)", x.generator(FAR), NONE);
        check.due("k 2: generator(LOW)", x.generator(LOW), NONE);
        x.code(10, 2, 254);
        check.due("b 254: generator(0) = A^254 * A^255", x.generator(0), 142);
        check.due("b 254: generator(1) = A^254 + 1", x.generator(1), 143);
        x.code(10, 0, 7);
        check.due("k 0: generator(0)", x.generator(0), 1);
        check.due("k 0: generator(1)", x.generator(1), NONE);
        for (int b = 0; b < 255; b += 2) {
            Pair pair = new Pair(check, "generators of b " + b);
            pair.code(5, 40 - b % 7, b);
            for (int i = -1; i <= 41; i++) {
                pair.generator(i);
            }
        }
    }

    private static void puts() {
        ReedSets x = new ReedSets();
        x.code(3, 2, 0);
        check.due("put(4, 255)", x.put(4, 255), 0);
        check.due("put(4, 1)", x.put(4, 1), 255);
        check.due("put(5, 1)", x.put(5, 1), NONE);
        check.due("put(-1, 1)", x.put(-1, 1), NONE);
        check.due("put(FAR, 1)", x.put(FAR, 1), NONE);
        check.due("put(LOW, 1)", x.put(LOW, 1), NONE);
        check.due("put(0, 256)", x.put(0, 256), NONE);
        check.due("put(0, -1)", x.put(0, -1), NONE);
        check.due("put(0, FAR)", x.put(0, FAR), NONE);
        check.due("at(0)", x.at(0), 0);
        check.due("at(4)", x.at(4), 1);
        check.due("at(5)", x.at(5), NONE);
        check.due("at(-1)", x.at(-1), NONE);
        check.due("at(FAR)", x.at(FAR), NONE);
        check.due("at(LOW)", x.at(LOW), NONE);
        x.lose(4);
        check.due("at(4), lost", x.at(4), 1);
        check.due("put(4, 7), lost", x.put(4, 7), 1);
        check.due("at(4), lost and put", x.at(4), 7);
        check.due("lose(4): a put leaves it lost", x.lose(4), NONE);
    }

    private static void encoding() {
        ReedSets x = new ReedSets();
        x.code(2, 1, 0);
        x.put(0, 5);
        x.put(1, 9);
        x.put(2, 200);
        x.lose(2);
        check.due("encode() with a lost repair byte", x.encode(), 1);
        check.due("at(2) = 5 xor 9", x.at(2), 12);
        check.due("at(0) stays", x.at(0), 5);
        check.due("lose(2): it was found", x.lose(2), 1);
        check.due("lose(1)", x.lose(1), 2);
        x.put(2, 77);
        check.due("encode() with lost data", x.encode(), NONE);
        check.due("at(2) is as it was", x.at(2), 77);
        check.due("lose(2): still lost", x.lose(2), NONE);
        check.due("lose(1): still lost", x.lose(1), NONE);
        x.code(4, 0, 9);
        x.put(3, 8);
        check.due("encode(), k 0", x.encode(), 1);
        check.due("at(3), k 0", x.at(3), 8);
        x.lose(3);
        check.due("encode(), k 0, lost", x.encode(), NONE);
        Random random = new Random(9);
        int[][] codes = {{200, 40, 0}, {200, 40, 254}, {1, 40, 100}, {200, 1, 17}, {150, 39, 128}, {37, 8, 1}, {1, 1, 254}};
        for (int[] c : codes) {
            Pair pair = new Pair(check, "encoding by " + c[0] + ", " + c[1] + ", " + c[2]);
            pair.code(c[0], c[1], c[2]);
            for (int i = 0; i < c[0]; i++) {
                pair.put(i, random.nextInt(256));
            }
            pair.encode();
            for (int i = 0; i <= c[0] + c[1] && pair.callsLeft() > 41; i++) {
                pair.at(i);
            }
            for (int i = 0; i < c[1] && pair.callsLeft() > 1; i++) {
                check.due("syndrome of an encoded word", pair.syndrome(i), 0);
            }
        }
    }

    private static void losing() {
        ReedSets x = new ReedSets();
        x.code(3, 1, 0);
        check.due("lose(3)", x.lose(3), 1);
        check.due("lose(3) again", x.lose(3), NONE);
        check.due("lose(0)", x.lose(0), 2);
        check.due("lose(4)", x.lose(4), NONE);
        check.due("lose(-1)", x.lose(-1), NONE);
        check.due("lose(FAR)", x.lose(FAR), NONE);
        check.due("lose(LOW)", x.lose(LOW), NONE);
        check.due("lose(1)", x.lose(1), 3);
        check.due("lose(2)", x.lose(2), 4);
    }

    private static void syndromes() {
        ReedSets x = new ReedSets();
        x.code(2, 2, 1);
        x.put(0, 1);
        x.put(3, 5);
        check.due("syndrome(0) = 2^3 + 5", x.syndrome(0), 8 ^ 5);
        check.due("syndrome(1) = 4^3 + 5", x.syndrome(1), 64 ^ 5);
        check.due("syndrome(2)", x.syndrome(2), NONE);
        check.due("syndrome(-1)", x.syndrome(-1), NONE);
        check.due("syndrome(FAR)", x.syndrome(FAR), NONE);
        check.due("syndrome(LOW)", x.syndrome(LOW), NONE);
        x.lose(0);
        check.due("syndrome(0), place 0 lost", x.syndrome(0), 5);
        check.due("at(0) stays", x.at(0), 1);
        x.put(0, 99);
        check.due("syndrome(1), place 0 lost and put", x.syndrome(1), 5);
        x.code(2, 0, 1);
        check.due("syndrome(0), k 0", x.syndrome(0), NONE);
    }

    private static void repairing() {
        ReedSets x = new ReedSets();
        x.code(2, 1, 0);
        x.put(0, 5);
        check.due("k 1, one error: repair()", x.repair(), NONE);
        x.lose(1);
        check.due("k 1, one lost: repair()", x.repair(), 0);
        check.due("at(1) makes it right", x.at(1), 5);
        check.due("lose(1): it was found", x.lose(1), 1);
        check.due("lose(2)", x.lose(2), 2);
        x.put(2, 9);
        check.due("k 1, two lost: repair()", x.repair(), NONE);
        check.due("at(2) is as it was", x.at(2), 9);
        check.due("lose(1): still lost", x.lose(1), NONE);
        x.code(3, 0, 5);
        x.put(1, 44);
        check.due("k 0: all are right", x.repair(), 0);
        check.due("k 0: at(1)", x.at(1), 44);
        x.lose(1);
        check.due("k 0: lost", x.repair(), NONE);
        x.code(3, 3, 0);
        x.put(0, 7);
        check.due("k 3, one error: repair()", x.repair(), 1);
        check.due("k 3: at(0)", x.at(0), 0);
        x.put(0, 7);
        x.put(2, 7);
        x.lose(2);
        check.due("k 3, one error and one lost: repair()", x.repair(), 1);
        check.due("k 3: at(0)", x.at(0), 0);
        check.due("k 3: at(2)", x.at(2), 0);
        x.put(0, 7);
        x.lose(1);
        x.lose(2);
        check.due("k 3, one error and two lost: repair()", x.repair(), NONE);
        check.due("k 3: at(0) is as it was", x.at(0), 7);
    }

    private static void changes() {
        ReedSets x = new ReedSets();
        x.code(4, 4, 2);
        x.put(6, 3);
        x.put(1, 8);
        x.lose(1);
        x.lose(3);
        check.due("repair()", x.repair(), 1);
        check.due("changed(0, 0): a lost one whose byte is another", x.changed(0, 0), 1);
        check.due("changed(0, 1)", x.changed(0, 1), 8);
        check.due("changed(1, 0)", x.changed(1, 0), 6);
        check.due("changed(1, 1)", x.changed(1, 1), 3);
        check.due("changed(2, 0): place 3 has the byte that it had", x.changed(2, 0), NONE);
        check.due("changed(2, 1)", x.changed(2, 1), NONE);
        check.due("changed(-1, 0)", x.changed(-1, 0), NONE);
        check.due("changed(-1, 1)", x.changed(-1, 1), NONE);
        check.due("changed(0, 2)", x.changed(0, 2), NONE);
        check.due("changed(0, -1)", x.changed(0, -1), NONE);
        check.due("changed(FAR, 0)", x.changed(FAR, 0), NONE);
        check.due("changed(LOW, 1)", x.changed(LOW, 1), NONE);
        check.due("changed(0, FAR)", x.changed(0, FAR), NONE);
        x.code(1, 40, 9);
        for (int i = 0; i < 40; i++) {
            x.put(i, i + 1);
            x.lose(i);
        }
        check.due("repair() of 40 lost ones", x.repair(), 0);
        for (int j = 0; j < 40; j++) {
            check.due("changed(" + j + ", 0) of 40", x.changed(j, 0), j);
            check.due("changed(" + j + ", 1) of 40", x.changed(j, 1), j + 1);
        }
        check.due("changed(40, 0) of 40", x.changed(40, 0), NONE);
    }

    /** They are of the latest repair() that told t, whatever came after it. */
    private static void changesStay() {
        ReedSets x = new ReedSets();
        x.code(4, 2, 0);
        x.put(2, 6);
        check.due("repair()", x.repair(), 1);
        x.put(0, 1);
        x.put(1, 1);
        x.put(2, 9);
        check.due("repair() that cannot be", x.repair(), NONE);
        check.due("changed(0, 0) after it", x.changed(0, 0), 2);
        check.due("changed(0, 1) after it", x.changed(0, 1), 6);
        x.encode();
        check.due("changed(0, 0) after encode()", x.changed(0, 0), 2);
        x.code(9, 4, 0);
        check.due("changed(0, 0) after code()", x.changed(0, 0), 2);
        check.due("changed(0, 1) after code()", x.changed(0, 1), 6);
        x.block(1, 2, 3, 4);
        x.lay(1);
        x.damage(1, 1, 5);
        check.due("mend()", x.mend(), 1);
        check.due("changed(0, 0) after mend()", x.changed(0, 0), 2);
        check.due("repair() with nothing to do", x.repair(), 0);
        check.due("changed(0, 0) after that", x.changed(0, 0), NONE);
    }

    /** Words that are often near a wrong one; every set of places is tried. */
    private static void tinyCodesByTryingAll() {
        Random random = new Random(20);
        for (int run = 0; run < 4000; run++) {
            int n = 1 + random.nextInt(6);
            int k = random.nextInt(6);
            int b = random.nextInt(255);
            ReedSets x = new ReedSets();
            x.code(n, k, b);
            int[] word = new int[n + k];
            boolean[] lost = new boolean[n + k];
            int kinds = random.nextBoolean() ? 2 : 256;
            for (int i = 0; i < n + k; i++) {
                word[i] = random.nextInt(4) == 0 ? random.nextInt(kinds) : 0;
                x.put(i, word[i]);
                lost[i] = random.nextInt(7) == 0;
                if (lost[i]) {
                    x.lose(i);
                }
            }
            expectRepair("tiny run " + run, x, word, lost, bestByTryingAll(word, lost, k, b));
        }
    }

    private static int[] bestByTryingAll(int[] word, boolean[] lost, int k, int b) {
        for (int set = 0; set < 1 << word.length; set++) {
            boolean[] open = lost.clone();
            int cost = 0;
            boolean sound = true;
            for (int i = 0; i < word.length; i++) {
                boolean chosen = (set >> i & 1) != 0;
                sound &= !(chosen && lost[i]);
                open[i] |= chosen;
                cost += (chosen ? 2 : 0) + (lost[i] ? 1 : 0);
            }
            int[] right = sound && cost <= k ? Model.filled(word, open, k, b) : null;
            if (right != null) {
                return right;
            }
        }
        return null;
    }

    private static void expectRepair(String name, ReedSets x, int[] word, boolean[] lost, int[] right) {
        int errors = 0;
        for (int i = 0; right != null && i < word.length; i++) {
            errors += !lost[i] && word[i] != right[i] ? 1 : 0;
        }
        check.due(name + ": repair()", x.repair(), right == null ? NONE : errors);
        int many = 0;
        for (int i = 0; i < word.length; i++) {
            int now = right == null ? word[i] : right[i];
            check.due(name + ": at(" + i + ")", x.at(i), now);
            if (now != word[i]) {
                check.due(name + ": changed(" + many + ", 0)", x.changed(many, 0), i);
                check.due(name + ": changed(" + many + ", 1)", x.changed(many, 1), now ^ word[i]);
                many++;
            }
        }
        check.due(name + ": changed(" + many + ", 0)", x.changed(many, 0), NONE);
        for (int i = 0; i < word.length; i++) {
            check.due(name + ": whether " + i + " is lost", x.lose(i) == NONE ? 1 : 0, right == null && lost[i] ? 1 : 0);
        }
    }

    /** Up to 2 t + e = k must come back, whatever the code; one more must not come back as it was. */
    private static void toTheLimit() {
        Random random = new Random(21);
        for (int run = 0; run < 600; run++) {
            int n = 1 + random.nextInt(run % 2 == 0 ? 20 : 100);
            int k = random.nextInt(41);
            int b = random.nextInt(255);
            int[] data = new int[n];
            for (int i = 0; i < n; i++) {
                data[i] = random.nextInt(256);
            }
            int[] right = Model.encoded(data, k, b);
            int e = Math.min(random.nextInt(k + 1), right.length);
            int t = Math.min((k - e) / 2, right.length - e);
            boolean beyond = run % 5 == 0 && t + e < right.length;
            hitAndRepair("limit run " + run, new int[] {n, k, b}, right, beyond ? t + 1 : t, e);
        }
    }

    private static void hitAndRepair(String name, int[] code, int[] right, int t, int e) {
        Random random = new Random(name.hashCode());
        int[] word = right.clone();
        boolean[] lost = new boolean[word.length];
        int[] order = shuffled(word.length, random);
        for (int j = 0; j < t + e; j++) {
            lost[order[j]] = j < e;
            word[order[j]] ^= j < e ? random.nextInt(256) : 1 + random.nextInt(255);
        }
        ReedSets x = new ReedSets();
        x.code(code[0], code[1], code[2]);
        for (int i = 0; i < word.length; i++) {
            x.put(i, word[i]);
            if (lost[i]) {
                x.lose(i);
            }
        }
        boolean near = 2 * t + e <= code[1];
        expectRepair(name, x, word, lost, near ? right : Model.nearest(word, lost, code[1], code[2]));
    }

    private static int[] shuffled(int many, Random random) {
        int[] order = new int[many];
        for (int i = 0; i < many; i++) {
            int j = random.nextInt(i + 1);
            order[i] = order[j];
            order[j] = i;
        }
        return order;
    }
}
