/** The edges that the document names in section 2 and in the promises 6 to 14, a test for each sentence. */
public final class WordEdgesTest {
    private static final Check check = new Check();
    private static final int NONE = ReedSets.NONE;
    private static final int FAR = Integer.MAX_VALUE;
    private static final int LOW = Integer.MIN_VALUE;

    public static void main(String[] args) {
        check.sentence("2: A CODE has n DATA (1 .. 200)", WordEdgesTest::howManyData);
        check.sentence("2: and k REPAIR BYTES (0 .. 40)", WordEdgesTest::howManyRepairs);
        check.sentence("2: n + k at most 255", WordEdgesTest::howManyInAll);
        check.sentence("2: a first power b (0 .. 254)", WordEdgesTest::firstPowers);
        check.sentence("2: c(i) stands before z^(n + k - 1 - i)", WordEdgesTest::whereBytesStand);
        check.sentence("2: RIGHT if it is 0 for z = A^b, A^(b+1), .., k of them", WordEdgesTest::rightWords);
        check.sentence("2: To ENCODE: the last k become such that the WORD is RIGHT", WordEdgesTest::encodedWords);
        check.sentence("2: Some places of THE WORD may be LOST (their BYTES do not count)", WordEdgesTest::lostDoNotCount);
        check.sentence("2: 2 t + e being at most k", WordEdgesTest::nearEnough);
        check.sentence("2: differs from it at t places that are not LOST", WordEdgesTest::placesOfTheWord);
        check.sentence("2: (there is one at most)", WordEdgesTest::halfWay);
        check.sentence("2: in any way at the e LOST ones", WordEdgesTest::manyLost);
        check.sentence("2: THE WORD becomes that, no place is LOST", WordEdgesTest::noneLostThen);
        check.sentence("2: else nothing changes", WordEdgesTest::elseNothing);
        check.sentence("6: Another CODE; THE WORD is all 0, nothing LOST: n + k", WordEdgesTest::anotherCode);
        check.sentence("6: NONE: it is none", WordEdgesTest::noCode);
        check.sentence("7: the product of all (z - A^(b + j)), j 0 .. k - 1", WordEdgesTest::generators);
        check.sentence("7: NONE: i not 0 .. k", WordEdgesTest::noGenerator);
        check.sentence("8: Place i of THE WORD becomes v: what it was", WordEdgesTest::puts);
        check.sentence("8: NONE: no such place, no BYTE", WordEdgesTest::noPuts);
        check.sentence("9: nothing is LOST then: 1", WordEdgesTest::encodes);
        check.sentence("9: NONE: a DATA place is LOST", WordEdgesTest::noEncodes);
        check.sentence("10: BYTE i of THE WORD, whether LOST or not", WordEdgesTest::looks);
        check.sentence("10: NONE", WordEdgesTest::noLooks);
        check.sentence("11: Place i is LOST: how many are", WordEdgesTest::losses);
        check.sentence("11: NONE: no such place, or it is so", WordEdgesTest::noLosses);
        check.sentence("12: (LOST ones as 0) for z = A^(b + i)", WordEdgesTest::syndromes);
        check.sentence("12: NONE: i not 0 .. k - 1", WordEdgesTest::noSyndromes);
        check.sentence("13: THE WORD is REPAIRED: t", WordEdgesTest::repairs);
        check.sentence("13: NONE: it cannot be", WordEdgesTest::noRepairs);
        check.sentence("14: Of the latest repair() that told t", WordEdgesTest::latestRepair);
        check.sentence("14: the j-th place (from 0, by numbers) whose BYTE is another one", WordEdgesTest::changedPlaces);
        check.sentence("14: (LOST ones, too)", WordEdgesTest::changedLostPlaces);
        check.sentence("14: 1 what that was xor what it is", WordEdgesTest::changedBytes);
        check.sentence("14: NONE: none such", WordEdgesTest::noChanges);
        check.end();
    }

    private static ReedSets coded(int n, int k, int b) {
        ReedSets x = new ReedSets();
        check.due("code(" + n + ", " + k + ", " + b + ")", x.code(n, k, b), n + k);
        return x;
    }

    /** Asks for a code that is none, and whether the one at hand, of 3 and 2 from 1 on, has stayed. */
    private static void refusedCode(int n, int k, int b) {
        ReedSets x = coded(3, 2, 1);
        x.put(4, 9);
        x.lose(0);
        String call = "code(" + n + ", " + k + ", " + b + ")";
        check.due(call, x.code(n, k, b), NONE);
        check.due("at(4) after " + call, x.at(4), 9);
        check.due("at(5) after " + call, x.at(5), NONE);
        check.due("lose(0) after " + call, x.lose(0), NONE);
        check.due("generator(0) after " + call, x.generator(0), 8);
        check.due("generator(2) after " + call, x.generator(2), 1);
        check.due("generator(3) after " + call, x.generator(3), NONE);
        check.due("syndrome(1) after " + call, x.syndrome(1), 9);
    }

    // ---- section 2

    private static void howManyData() {
        ReedSets x = coded(1, 0, 0);
        check.due("at(0) of 1", x.at(0), 0);
        check.due("at(1) of 1", x.at(1), NONE);
        x = coded(200, 0, 0);
        check.due("at(199) of 200", x.at(199), 0);
        check.due("at(200) of 200", x.at(200), NONE);
        int[] none = {0, -1, 201, 255, 256, FAR, LOW};
        for (int n : none) {
            refusedCode(n, 0, 0);
            refusedCode(n, 1, 0);
        }
    }

    private static void howManyRepairs() {
        ReedSets x = coded(1, 0, 0);
        check.due("syndrome(0) of 0", x.syndrome(0), NONE);
        x = coded(1, 40, 0);
        check.due("syndrome(39) of 40", x.syndrome(39), 0);
        check.due("syndrome(40) of 40", x.syndrome(40), NONE);
        check.due("at(40) of 1 + 40", x.at(40), 0);
        check.due("at(41) of 1 + 40", x.at(41), NONE);
        int[] none = {-1, 41, 54, 254, 255, FAR, LOW};
        for (int k : none) {
            refusedCode(1, k, 0);
            refusedCode(200, k, 0);
        }
    }

    /** The other bounds leave 240 at most; sums that run over an int are none that are small. */
    private static void howManyInAll() {
        ReedSets x = coded(200, 40, 0);
        check.due("at(239)", x.at(239), 0);
        check.due("at(240)", x.at(240), NONE);
        refusedCode(215, 40, 0);
        refusedCode(216, 40, 0);
        refusedCode(200, 55, 0);
        refusedCode(200, 56, 0);
        refusedCode(FAR, FAR, 0);
        refusedCode(LOW, LOW, 0);
        refusedCode(FAR, 3, 0);
        refusedCode(200, FAR, 0);
    }

    private static void firstPowers() {
        check.due("generator(0), b 0", coded(1, 1, 0).generator(0), 1);
        check.due("generator(0), b 254", coded(1, 1, 254).generator(0), 142);
        int[] none = {-1, 255, 256, -255, FAR, LOW};
        for (int b : none) {
            refusedCode(1, 1, b);
            refusedCode(1, 0, b);
        }
    }

    private static void whereBytesStand() {
        ReedSets x = coded(200, 40, 1);
        x.put(0, 1);
        check.due("syndrome(0) of 1 at 0: 2^239", x.syndrome(0), 22);
        x.put(0, 0);
        x.put(239, 1);
        check.due("syndrome(0) of 1 at 239: 2^0", x.syndrome(0), 1);
        x.put(238, 1);
        check.due("syndrome(0) of 1 at 238, too: 2^1 + 2^0", x.syndrome(0), 3);
        ReedSets y = coded(1, 1, 254);
        y.put(0, 1);
        check.due("n 1, k 1: syndrome(0) of 1 at 0: 142^1", y.syndrome(0), 142);
    }

    /** (z - 1) (z - 2), which is not 0 for z = 4; and (z - 142) (z - 1) behind the last power. */
    private static void rightWords() {
        int[] both = {1, 3, 2};
        check.due("b 0, k 2: repair()", put(coded(1, 2, 0), both).repair(), 0);
        check.due("b 0, k 1: repair()", put(coded(2, 1, 0), both).repair(), 0);
        check.due("b 1, k 1: repair()", put(coded(2, 1, 1), both).repair(), 0);
        check.due("b 2, k 1: syndrome(0)", put(coded(2, 1, 2), both).syndrome(0), 30);
        check.due("b 2, k 1: repair()", put(coded(2, 1, 2), both).repair(), NONE);
        check.due("b 254, k 1: repair()", put(coded(2, 1, 254), both).repair(), NONE);
        int[] around = {1, 143, 142};
        check.due("b 254, k 2: repair()", put(coded(1, 2, 254), around).repair(), 0);
        check.due("b 253, k 1: repair()", put(coded(2, 1, 253), around).repair(), NONE);
        check.due("b 1, k 1: repair()", put(coded(2, 1, 1), around).repair(), NONE);
        int[] any = {7, 0, 255};
        check.due("k 0, any word: repair()", put(coded(3, 0, 9), any).repair(), 0);
    }

    private static ReedSets put(ReedSets x, int... word) {
        for (int i = 0; i < word.length; i++) {
            x.put(i, word[i]);
        }
        return x;
    }

    private static void encodedWords() {
        ReedSets x = put(coded(3, 0, 254), 255, 0, 7);
        check.due("k 0: encode()", x.encode(), 1);
        expectWord("k 0", x, 255, 0, 7);
        x = put(coded(1, 1, 0), 255, 3);
        check.due("k 1: encode()", x.encode(), 1);
        expectWord("k 1", x, 255, 255);
        x = put(coded(1, 2, 254), 1, 99, 98);
        check.due("k 2: encode()", x.encode(), 1);
        expectWord("k 2", x, 1, 143, 142);
        check.due("k 2: encode() again", x.encode(), 1);
        expectWord("k 2 again", x, 1, 143, 142);
        x = put(coded(200, 40, 3), new int[200]);
        check.due("all 0: encode()", x.encode(), 1);
        check.due("all 0: at(200)", x.at(200), 0);
        check.due("all 0: at(239)", x.at(239), 0);
        int[][] codes = {{1, 40, 0}, {1, 40, 254}, {200, 40, 0}, {200, 40, 254}, {200, 1, 254}};
        for (int[] c : codes) {
            fullEncode(c[0], c[1], c[2]);
        }
    }

    private static void fullEncode(int n, int k, int b) {
        ReedSets x = coded(n, k, b);
        for (int i = 0; i < n; i++) {
            x.put(i, 255 - i);
        }
        x.put(n + k - 1, 77);
        check.due("encode() of " + n + " and " + k, x.encode(), 1);
        for (int i = 0; i < k; i++) {
            check.due("syndrome(" + i + ")", x.syndrome(i), 0);
        }
        for (int i = 0; i < n; i++) {
            check.due("at(" + i + "), DATA stay", x.at(i), 255 - i);
        }
    }

    private static void expectWord(String name, ReedSets x, int... word) {
        for (int i = 0; i < word.length; i++) {
            check.due(name + ": at(" + i + ")", x.at(i), word[i]);
        }
        check.due(name + ": at(" + word.length + ")", x.at(word.length), NONE);
    }

    private static void lostDoNotCount() {
        ReedSets x = put(coded(2, 2, 1), 0, 200, 0, 0);
        x.lose(1);
        check.due("syndrome(0), one lost", x.syndrome(0), 0);
        check.due("repair(), as if the lost byte were any", x.repair(), 0);
        check.due("at(1)", x.at(1), 0);
        x = put(coded(2, 2, 1), 9, 8, 7, 6);
        for (int i = 0; i < 4; i++) {
            x.lose(i);
        }
        check.due("syndrome(0), all lost", x.syndrome(0), 0);
        check.due("syndrome(1), all lost", x.syndrome(1), 0);
        x.put(2, 255);
        check.due("syndrome(0), all lost and one put", x.syndrome(0), 0);
        check.due("repair(), all lost", x.repair(), NONE);
        expectWord("all lost", x, 9, 8, 255, 6);
        x = put(coded(1, 1, 0), 5, 6);
        check.due("repair(), none lost", x.repair(), NONE);
    }

    /** For each k and e: as many errors as there may be, and what is just one more than k in all. */
    private static void nearEnough() {
        for (int k = 0; k <= 40; k++) {
            for (int e = 0; e <= k; e++) {
                hit(k, (k - e) / 2, e, true);
            }
            for (int e = k + 1; e >= 0; e -= 2) {
                hit(k, (k + 1 - e) / 2, e, false);
            }
        }
    }

    /** Errors at the places 0, 2, 4, .., losses at the last ones, in a word that is all 0. */
    private static void hit(int k, int t, int e, boolean near) {
        int size = 45 + k;
        String name = "k " + k + ", t " + t + ", e " + e + ": ";
        ReedSets x = coded(45, k, 7 * k % 255);
        for (int j = 0; j < t; j++) {
            x.put(2 * j, 255 - j);
        }
        for (int j = 0; j < e; j++) {
            x.put(size - 1 - j, j + 1);
            x.lose(size - 1 - j);
        }
        check.due(name + "repair()", x.repair(), near ? t : NONE);
        for (int j = 0; j < t; j++) {
            check.due(name + "at(" + 2 * j + ")", x.at(2 * j), near ? 0 : 255 - j);
        }
        for (int j = 0; j < e; j++) {
            check.due(name + "at(" + (size - 1 - j) + ")", x.at(size - 1 - j), near ? 0 : j + 1);
        }
        if (e > 0) {
            check.due(name + "lose(" + (size - e) + ")", x.lose(size - e), near ? 1 : NONE);
        }
    }

    /** The error that would put it right stands before z^power: of 5 places, or of those that the word does not have. */
    private static void placesOfTheWord() {
        ReedSets field = new ReedSets();
        for (int power = 0; power < 255; power++) {
            int above = field.over(1 ^ Model.two(power), 3);
            ReedSets x = put(coded(3, 2, 0), 0, 0, 0, above, above ^ 1);
            check.due("z^" + power + ": syndrome(0)", x.syndrome(0), 1);
            check.due("z^" + power + ": syndrome(1)", x.syndrome(1), Model.two(power));
            check.due("z^" + power + ": repair()", x.repair(), power < 5 ? 1 : NONE);
            check.due("z^" + power + ": changed(0, 0)", x.changed(0, 0), power < 5 ? 4 - power : NONE);
            if (power >= 5) {
                expectWord("z^" + power, x, 0, 0, 0, above, above ^ 1);
            }
        }
    }

    /** Two places from the one and two from the other; a lost place decides. */
    private static void halfWay() {
        int[] right = Model.encoded(new int[] {1}, 3, 0);
        ReedSets x = put(coded(1, 3, 0), 1, right[1], 0, 0);
        check.due("repair()", x.repair(), NONE);
        expectWord("half way", x, 1, right[1], 0, 0);
        x.lose(0);
        check.due("nearer to 0: repair()", x.repair(), 1);
        expectWord("nearer to 0", x, 0, 0, 0, 0);
        put(x, 1, right[1], 0, 0);
        x.lose(2);
        check.due("nearer to the other: repair()", x.repair(), 1);
        expectWord("nearer to the other", x, right);
    }

    private static void manyLost() {
        ReedSets x = coded(1, 40, 5);
        x.put(0, 77);
        x.encode();
        int[] right = new int[41];
        for (int i = 0; i < 41; i++) {
            right[i] = x.at(i);
        }
        for (int i = 1; i < 41; i++) {
            x.put(i, i);
            check.due("lose(" + i + ")", x.lose(i), i);
        }
        check.due("repair(), only DATA left", x.repair(), 0);
        expectWord("only DATA left", x, right);
        for (int i = 0; i < 40; i++) {
            x.put(i, 255 - i);
            x.lose(i);
        }
        check.due("repair(), only the last left", x.repair(), 0);
        expectWord("only the last left", x, right);
        for (int i = 0; i < 41; i++) {
            x.lose(i);
        }
        check.due("repair(), none left", x.repair(), NONE);
        expectWord("none left", x, right);
    }

    private static void noneLostThen() {
        ReedSets x = coded(3, 4, 0);
        int[] lost = {0, 2, 3, 6};
        for (int i : lost) {
            x.lose(i);
        }
        check.due("repair()", x.repair(), 0);
        for (int i = 0; i < 7; i++) {
            check.due("lose(" + i + ")", x.lose(i), i + 1);
        }
    }

    private static void elseNothing() {
        ReedSets x = put(coded(3, 2, 0), 1, 0, 0, 9, 5);
        x.lose(3);
        check.due("one error too many: repair()", x.repair(), NONE);
        expectWord("refused", x, 1, 0, 0, 9, 5);
        check.due("lose(3)", x.lose(3), NONE);
        check.due("lose(0), one was lost", x.lose(0), 2);
        check.due("lose(4)", x.lose(4), 3);
        check.due("one lost too many: repair()", x.repair(), NONE);
        expectWord("refused again", x, 1, 0, 0, 9, 5);
        int[] lost = {0, 3, 4};
        for (int i : lost) {
            check.due("lose(" + i + ")", x.lose(i), NONE);
        }
        check.due("lose(1), three were lost", x.lose(1), 4);
        check.due("changed(0, 0)", x.changed(0, 0), NONE);
    }

    // ---- promises 6 to 12

    private static void anotherCode() {
        ReedSets x = coded(200, 40, 254);
        for (int i = 0; i < 240; i += 3) {
            x.put(i, 255);
            x.lose(i);
        }
        x.put(239, 255);
        check.due("code(200, 40, 254) again", x.code(200, 40, 254), 240);
        for (int i = 0; i < 240; i += 3) {
            check.due("at(" + i + ")", x.at(i), 0);
        }
        check.due("at(239)", x.at(239), 0);
        check.due("lose(0)", x.lose(0), 1);
        x = coded(3, 1, 0);
        put(x, 9, 9, 9, 9);
        check.due("code(1, 0, 0)", x.code(1, 0, 0), 1);
        check.due("at(1)", x.at(1), NONE);
        check.due("code(3, 1, 0)", x.code(3, 1, 0), 4);
        expectWord("behind a shorter word", x, 0, 0, 0, 0);
    }

    private static void noCode() {
        refusedCode(0, 0, 0);
        refusedCode(201, 40, 254);
        refusedCode(200, 41, 254);
        refusedCode(200, 40, 255);
        refusedCode(1, 0, -1);
        refusedCode(1, -1, 0);
        ReedSets x = put(coded(2, 1, 0), 5, 9);
        check.due("code(2, 1, 255)", x.code(2, 1, 255), NONE);
        check.due("encode() by the code at hand", x.encode(), 1);
        expectWord("after a code that is none", x, 5, 9, 12);
        ReedSets y = new ReedSets();
        check.due("new: code(0, 0, 0)", y.code(0, 0, 0), NONE);
        check.due("new: at(0)", y.at(0), 0);
        check.due("new: at(1)", y.at(1), NONE);
    }

    private static void generators() {
        check.due("k 0: generator(0)", coded(1, 0, 254).generator(0), 1);
        check.due("k 1: generator(0)", coded(1, 1, 0).generator(0), 1);
        check.due("k 1: generator(1)", coded(1, 1, 0).generator(1), 1);
        ReedSets x = coded(1, 2, 253);
        check.due("A^253 A^254 = A^252: generator(0)", x.generator(0), 173);
        check.due("A^253 + A^254: generator(1)", x.generator(1), 71 ^ 142);
        x = coded(1, 2, 254);
        check.due("A^254 A^255 = A^254: generator(0)", x.generator(0), 142);
        check.due("A^254 + A^255: generator(1)", x.generator(1), 143);
        check.due("generator(2)", x.generator(2), 1);
        int[] firsts = {0, 214, 215, 216, 254};
        for (int b : firsts) {
            fullGenerator(b);
        }
    }

    /** All 40 powers of z, some of them behind the last: z^40 alone, the product of all roots, and each root. */
    private static void fullGenerator(int b) {
        ReedSets x = coded(200, 40, b);
        int product = 1;
        for (int j = 0; j < 40; j++) {
            product = FieldTest.product(product, Model.two(b + j));
        }
        check.due("b " + b + ": generator(0)", x.generator(0), product);
        check.due("b " + b + ": generator(40)", x.generator(40), 1);
        int[] parts = new int[41];
        for (int i = 0; i <= 40; i++) {
            parts[i] = x.generator(i);
        }
        for (int j = -1; j <= 40; j++) {
            boolean isZero = Model.at(parts, Model.two(b + j)) == 0;
            check.isTrue("b " + b + ": whether A^(b + " + j + ") is a root", isZero == (j >= 0 && j < 40));
        }
    }

    private static void noGenerator() {
        ReedSets x = coded(1, 0, 0);
        check.due("k 0: generator(-1)", x.generator(-1), NONE);
        check.due("k 0: generator(0)", x.generator(0), 1);
        check.due("k 0: generator(1)", x.generator(1), NONE);
        x = coded(1, 40, 0);
        check.due("k 40: generator(-1)", x.generator(-1), NONE);
        check.due("k 40: generator(40)", x.generator(40), 1);
        check.due("k 40: generator(41)", x.generator(41), NONE);
        check.due("k 40: generator(FAR)", x.generator(FAR), NONE);
        check.due("k 40: generator(LOW)", x.generator(LOW), NONE);
        x.code(1, 3, 0);
        check.due("k 3: generator(3)", x.generator(3), 1);
        check.due("k 3 behind 40: generator(4)", x.generator(4), NONE);
    }

    private static void puts() {
        ReedSets x = coded(200, 40, 0);
        check.due("put(0, 255)", x.put(0, 255), 0);
        check.due("put(239, 1)", x.put(239, 1), 0);
        check.due("put(0, 0)", x.put(0, 0), 255);
        check.due("put(239, 255)", x.put(239, 255), 1);
        check.due("put(239, 255) again", x.put(239, 255), 255);
        check.due("at(0)", x.at(0), 0);
        check.due("at(1)", x.at(1), 0);
        check.due("at(238)", x.at(238), 0);
        check.due("at(239)", x.at(239), 255);
        x.lose(239);
        check.due("put(239, 3) of a lost one", x.put(239, 3), 255);
        check.due("at(239)", x.at(239), 3);
        check.due("lose(239), it is lost still", x.lose(239), NONE);
    }

    private static void noPuts() {
        ReedSets x = put(coded(2, 1, 0), 4, 5, 6);
        int[] noPlaces = {-1, 3, 239, 240, FAR, LOW};
        for (int i : noPlaces) {
            check.due("put(" + i + ", 1)", x.put(i, 1), NONE);
            check.due("put(" + i + ", 256)", x.put(i, 256), NONE);
        }
        int[] noBytes = {-1, 256, FAR, LOW};
        for (int v : noBytes) {
            check.due("put(0, " + v + ")", x.put(0, v), NONE);
            check.due("put(2, " + v + ")", x.put(2, v), NONE);
        }
        expectWord("refused", x, 4, 5, 6);
        x.code(5, 1, 0);
        expectWord("what was behind the word", x, 0, 0, 0, 0, 0, 0);
    }

    private static void encodes() {
        ReedSets x = coded(1, 40, 0);
        x.put(0, 255);
        for (int i = 1; i <= 40; i++) {
            check.due("lose(" + i + ")", x.lose(i), i);
        }
        check.due("encode(), all REPAIR BYTES lost", x.encode(), 1);
        check.due("syndrome(39)", x.syndrome(39), 0);
        check.due("lose(40), none was lost", x.lose(40), 1);
        check.due("lose(1)", x.lose(1), 2);
        ReedSets y = new ReedSets();
        check.due("n 1, k 0: encode()", y.encode(), 1);
        check.due("at(0)", y.at(0), 0);
    }

    private static void noEncodes() {
        ReedSets x = put(coded(3, 2, 0), 7, 8, 9, 10, 11);
        x.lose(2);
        check.due("encode(), the last DATA place lost", x.encode(), NONE);
        x.lose(3);
        check.due("encode(), a REPAIR BYTE lost, too", x.encode(), NONE);
        expectWord("refused", x, 7, 8, 9, 10, 11);
        check.due("lose(2)", x.lose(2), NONE);
        check.due("lose(3)", x.lose(3), NONE);
        check.due("lose(4), two were lost", x.lose(4), 3);
        x.code(3, 2, 0);
        x.lose(0);
        check.due("encode(), the first DATA place lost", x.encode(), NONE);
        x.code(3, 2, 0);
        x.lose(3);
        check.due("encode(), the first REPAIR BYTE lost", x.encode(), 1);
        ReedSets y = coded(2, 0, 0);
        y.lose(1);
        check.due("k 0: encode()", y.encode(), NONE);
    }

    private static void looks() {
        ReedSets x = coded(200, 40, 0);
        x.put(0, 1);
        x.put(239, 2);
        check.due("at(0)", x.at(0), 1);
        check.due("at(239)", x.at(239), 2);
        x.lose(0);
        x.lose(239);
        check.due("at(0), lost", x.at(0), 1);
        check.due("at(239), lost", x.at(239), 2);
    }

    private static void noLooks() {
        ReedSets x = coded(200, 40, 0);
        check.due("at(-1)", x.at(-1), NONE);
        check.due("at(240)", x.at(240), NONE);
        check.due("at(FAR)", x.at(FAR), NONE);
        check.due("at(LOW)", x.at(LOW), NONE);
        x.code(2, 1, 0);
        check.due("at(2)", x.at(2), 0);
        check.due("at(3)", x.at(3), NONE);
    }

    private static void losses() {
        ReedSets x = coded(200, 40, 0);
        for (int i = 239; i >= 0; i--) {
            check.due("lose(" + i + ")", x.lose(i), 240 - i);
        }
        check.due("lose(0), all are", x.lose(0), NONE);
        check.due("lose(239), all are", x.lose(239), NONE);
    }

    private static void noLosses() {
        ReedSets x = coded(2, 1, 0);
        check.due("lose(-1)", x.lose(-1), NONE);
        check.due("lose(3)", x.lose(3), NONE);
        check.due("lose(FAR)", x.lose(FAR), NONE);
        check.due("lose(LOW)", x.lose(LOW), NONE);
        check.due("lose(2)", x.lose(2), 1);
        check.due("lose(2) again", x.lose(2), NONE);
        check.due("lose(0), one was", x.lose(0), 2);
        check.due("lose(0) again", x.lose(0), NONE);
        check.due("lose(1), two were", x.lose(1), 3);
        x.code(5, 1, 0);
        check.due("lose(3), none was lost behind the word", x.lose(3), 1);
    }

    private static void syndromes() {
        ReedSets x = coded(1, 2, 253);
        x.put(1, 1);
        check.due("syndrome(0): A^253", x.syndrome(0), 71);
        check.due("syndrome(1): A^254", x.syndrome(1), 142);
        x.code(1, 40, 254);
        x.put(39, 1);
        check.due("syndrome(0): A^254", x.syndrome(0), 142);
        check.due("syndrome(1): A^255", x.syndrome(1), 1);
        check.due("syndrome(2): A^256", x.syndrome(2), 2);
        check.due("syndrome(39): A^293", x.syndrome(39), Model.two(293));
        x.lose(39);
        check.due("syndrome(0), it is lost", x.syndrome(0), 0);
        check.due("syndrome(39), it is lost", x.syndrome(39), 0);
    }

    private static void noSyndromes() {
        ReedSets x = coded(1, 0, 0);
        check.due("k 0: syndrome(0)", x.syndrome(0), NONE);
        check.due("k 0: syndrome(-1)", x.syndrome(-1), NONE);
        x.code(1, 1, 0);
        check.due("k 1: syndrome(0)", x.syndrome(0), 0);
        check.due("k 1: syndrome(1)", x.syndrome(1), NONE);
        x.code(1, 40, 0);
        check.due("k 40: syndrome(-1)", x.syndrome(-1), NONE);
        check.due("k 40: syndrome(39)", x.syndrome(39), 0);
        check.due("k 40: syndrome(40)", x.syndrome(40), NONE);
        check.due("k 40: syndrome(FAR)", x.syndrome(FAR), NONE);
        check.due("k 40: syndrome(LOW)", x.syndrome(LOW), NONE);
    }

    // ---- promises 13 and 14

    private static void repairs() {
        ReedSets x = coded(200, 40, 254);
        check.due("repair() of a RIGHT WORD", x.repair(), 0);
        for (int i = 0; i < 20; i++) {
            x.put(i, 1);
        }
        check.due("repair() of 20 at the beginning", x.repair(), 20);
        for (int i = 220; i < 240; i++) {
            x.put(i, 255);
        }
        check.due("repair() of 20 at the end", x.repair(), 20);
        for (int i = 0; i < 40; i++) {
            x.put(i, 1);
            x.lose(i);
        }
        check.due("repair() of 40 lost ones", x.repair(), 0);
        for (int i = 0; i < 240; i += 13) {
            check.due("at(" + i + ")", x.at(i), 0);
        }
        x.code(1, 2, 0);
        put(x, 0, 5, 0);
        check.due("n 1, k 2: repair()", x.repair(), 1);
        x.put(0, 5);
        check.due("repair() of DATA", x.repair(), 1);
        x.put(2, 5);
        check.due("repair() of the last place", x.repair(), 1);
        expectWord("n 1, k 2", x, 0, 0, 0);
    }

    private static void noRepairs() {
        ReedSets x = coded(200, 40, 0);
        for (int i = 0; i < 41; i++) {
            x.lose(i);
        }
        check.due("41 lost of a RIGHT WORD: repair()", x.repair(), NONE);
        check.due("lose(0)", x.lose(0), NONE);
        check.due("lose(41)", x.lose(41), 42);
        x.code(200, 40, 0);
        for (int i = 0; i < 20; i++) {
            x.put(i, 1);
        }
        x.lose(100);
        check.due("20 errors and one lost: repair()", x.repair(), NONE);
        check.due("at(19)", x.at(19), 1);
        x.code(5, 1, 0);
        x.put(0, 1);
        check.due("k 1, one error: repair()", x.repair(), NONE);
        check.due("at(0)", x.at(0), 1);
        x.lose(0);
        check.due("k 1, it is lost: repair()", x.repair(), 0);
        check.due("at(0)", x.at(0), 0);
    }

    private static void latestRepair() {
        ReedSets x = coded(3, 2, 0);
        check.due("before any: changed(0, 0)", x.changed(0, 0), NONE);
        x.lose(0);
        x.lose(1);
        x.lose(2);
        check.due("repair()", x.repair(), NONE);
        check.due("after one that cannot be: changed(0, 0)", x.changed(0, 0), NONE);
        x.code(3, 2, 0);
        x.put(4, 7);
        check.due("repair()", x.repair(), 1);
        x.put(0, 9);
        x.lose(0);
        x.lose(1);
        x.lose(2);
        check.due("repair()", x.repair(), NONE);
        check.due("that one told no t: changed(0, 0)", x.changed(0, 0), 4);
        check.due("changed(0, 1)", x.changed(0, 1), 7);
        x.code(3, 2, 0);
        x.put(1, 8);
        check.due("repair()", x.repair(), 1);
        check.due("changed(0, 0)", x.changed(0, 0), 1);
        check.due("changed(1, 0)", x.changed(1, 0), NONE);
        check.due("repair() that had nothing to do", x.repair(), 0);
        check.due("it told t, too: changed(0, 0)", x.changed(0, 0), NONE);
    }

    private static void changedPlaces() {
        ReedSets x = coded(200, 40, 0);
        for (int j = 19; j >= 0; j--) {
            x.put(12 * j + 11, j + 1);
        }
        check.due("repair()", x.repair(), 20);
        for (int j = 0; j < 20; j++) {
            check.due("changed(" + j + ", 0)", x.changed(j, 0), 12 * j + 11);
        }
        check.due("changed(20, 0)", x.changed(20, 0), NONE);
        x.put(0, 1);
        check.due("repair()", x.repair(), 1);
        check.due("changed(0, 0), the least place", x.changed(0, 0), 0);
        check.due("changed(1, 0), those before are gone", x.changed(1, 0), NONE);
    }

    /** A lost place counts if its byte is another one, as at() told it, and not if it is the same. */
    private static void changedLostPlaces() {
        ReedSets x = coded(200, 40, 0);
        for (int i = 200; i < 240; i++) {
            x.put(i, 255);
            x.lose(i);
        }
        check.due("repair()", x.repair(), 0);
        check.due("changed(0, 0)", x.changed(0, 0), 200);
        check.due("changed(39, 0), the last of 40", x.changed(39, 0), 239);
        check.due("changed(39, 1)", x.changed(39, 1), 255);
        check.due("changed(40, 0)", x.changed(40, 0), NONE);
        for (int i = 0; i < 40; i++) {
            x.lose(i);
        }
        x.put(7, 3);
        check.due("repair(), all but one as they were", x.repair(), 0);
        check.due("changed(0, 0)", x.changed(0, 0), 7);
        check.due("changed(0, 1)", x.changed(0, 1), 3);
        check.due("changed(1, 0)", x.changed(1, 0), NONE);
    }

    private static void changedBytes() {
        ReedSets x = coded(2, 4, 1);
        x.put(0, 255);
        x.encode();
        x.put(0, 0);
        x.lose(0);
        x.put(1, 1);
        check.due("repair()", x.repair(), 1);
        check.due("changed(0, 1) of 0 that is 255, lost", x.changed(0, 1), 255);
        check.due("changed(1, 1) of 1 that is 0", x.changed(1, 1), 1);
        check.due("changed(2, 1)", x.changed(2, 1), NONE);
        x.put(0, 254);
        x.put(5, x.at(5) ^ 128);
        check.due("repair()", x.repair(), 2);
        check.due("changed(0, 1) of 254 that is 255", x.changed(0, 1), 1);
        check.due("changed(1, 1) of the last", x.changed(1, 1), 128);
    }

    private static void noChanges() {
        ReedSets x = coded(3, 2, 0);
        x.put(2, 6);
        x.repair();
        int[] noJ = {-1, 1, 2, 39, 40, FAR, LOW};
        for (int j : noJ) {
            check.due("changed(" + j + ", 0)", x.changed(j, 0), NONE);
            check.due("changed(" + j + ", 1)", x.changed(j, 1), NONE);
        }
        int[] noWhat = {-1, 2, FAR, LOW};
        for (int what : noWhat) {
            check.due("changed(0, " + what + ")", x.changed(0, what), NONE);
            check.due("changed(1, " + what + ")", x.changed(1, what), NONE);
        }
        check.due("changed(0, 0)", x.changed(0, 0), 2);
        check.due("changed(0, 1)", x.changed(0, 1), 6);
    }
}
