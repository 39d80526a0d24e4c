/** The edges that the document names in section 3 and in the promises 15 to 21, a test for each sentence. */
public final class BlockEdgesTest {
    private static final Check check = new Check();
    private static final int NONE = ReedSets.NONE;
    private static final int FAR = Integer.MAX_VALUE;
    private static final int LOW = Integer.MIN_VALUE;

    public static void main(String[] args) {
        check.sentence("3: A BLOCK of m BYTES (1 .. 800)", BlockEdgesTest::howManyBytes);
        check.sentence("3: s STRIPES (1 .. 16; s at most m)", BlockEdgesTest::howManyStripes);
        check.sentence("3: DATA j / s (cut off) of STRIPE j modulo s", BlockEdgesTest::whereBytesGo);
        check.sentence("3: those that get one less have a 0 behind, which is not SENT", BlockEdgesTest::zerosBehind);
        check.sentence("3: as many DATA as the longest has (200 at most)", BlockEdgesTest::longestStripe);
        check.sentence("3: k and b of the CODE at hand", BlockEdgesTest::codeAtHand);
        check.sentence("3: the first one of each STRIPE, by numbers, then the second ones", BlockEdgesTest::orderOfSent);
        check.sentence("3: each STRIPE is REPAIRED by itself", BlockEdgesTest::eachByItself);
        check.sentence("3: a STRIPE for which they would have to change is not REPAIRED", BlockEdgesTest::zerosStay);
        check.sentence("15: Up to four BYTES (those that are NONE do not)", BlockEdgesTest::upToFour);
        check.sentence("15: which is not laid then", BlockEdgesTest::notLaidThen);
        check.sentence("15: NONE: another number", BlockEdgesTest::otherNumbers);
        check.sentence("15: more than 800", BlockEdgesTest::tooManyBytes);
        check.sentence("16: The BLOCK has no BYTES: how many it had", BlockEdgesTest::wipes);
        check.sentence("17: how many are SENT", BlockEdgesTest::howManySent);
        check.sentence("17: NONE: another s", BlockEdgesTest::otherStripes);
        check.sentence("17: no BYTES", BlockEdgesTest::noBytes);
        check.sentence("17: more than 200 DATA or 255 in a STRIPE", BlockEdgesTest::tooLongStripes);
        check.sentence("18: BYTE i of what was SENT, as it is now", BlockEdgesTest::asItIsNow);
        check.sentence("18: NONE: none such, not laid", BlockEdgesTest::noneSent);
        check.sentence("19: So many BYTES from i on (1 .. 100)", BlockEdgesTest::howManyDamaged);
        check.sentence("19: are each xor v (0 .. 255)", BlockEdgesTest::xored);
        check.sentence("19: or LOST (v = NONE)", BlockEdgesTest::lost);
        check.sentence("19: NONE: none such", BlockEdgesTest::noDamage);
        check.sentence("20: the sum of all t", BlockEdgesTest::sumOfAll);
        check.sentence("20: - 2 less the first STRIPE that cannot be REPAIRED", BlockEdgesTest::firstThatCannot);
        check.sentence("20: (those before it are, others are not looked at)", BlockEdgesTest::beforeAndBehind);
        check.sentence("20: NONE: not laid", BlockEdgesTest::nothingToMend);
        check.sentence("21: other ones than they were when it was laid, or LOST", BlockEdgesTest::howManyWrong);
        check.sentence("21: NONE: not laid", BlockEdgesTest::nothingWrong);
        check.end();
    }

    /** A block of m bytes, none of them 0, by a code of k and b; 201 calls at most. */
    private static ReedSets filled(int m, int k, int b) {
        ReedSets x = new ReedSets();
        check.due("code(1, " + k + ", " + b + ")", x.code(1, k, b), 1 + k);
        for (int i = 0; i < m; i += 4) {
            x.block(byteOf(i), orNone(i + 1, m), orNone(i + 2, m), orNone(i + 3, m));
        }
        return x;
    }

    private static int byteOf(int i) {
        return i % 255 + 1;
    }

    private static int orNone(int i, int m) {
        return i < m ? byteOf(i) : NONE;
    }

    private static ReedSets laid(int m, int k, int b, int s) {
        ReedSets x = filled(m, k, b);
        check.due("lay(" + s + ") of " + m, x.lay(s), m + s * k);
        return x;
    }

    private static void expectNotLaid(String when, ReedSets x) {
        check.due(when + ": sent(0)", x.sent(0), NONE);
        check.due(when + ": damage(0, 1, 0)", x.damage(0, 1, 0), NONE);
        check.due(when + ": damage(0, 1, NONE)", x.damage(0, 1, NONE), NONE);
        check.due(when + ": mend()", x.mend(), NONE);
        check.due(when + ": wrong()", x.wrong(), NONE);
    }

    private static void damageAll(ReedSets x, int sent, int v) {
        for (int i = 0; i < sent; i += 100) {
            int many = Math.min(100, sent - i);
            check.due("damage(" + i + ", " + many + ", " + v + ")", x.damage(i, many, v), 1);
        }
    }

    // ---- section 3

    private static void howManyBytes() {
        check.due("none: lay(1)", filled(0, 0, 0).lay(1), NONE);
        ReedSets x = laid(1, 0, 0, 1);
        check.due("one: sent(0)", x.sent(0), 1);
        check.due("one: sent(1)", x.sent(1), NONE);
        x = laid(800, 0, 0, 4);
        check.due("800: sent(799)", x.sent(799), byteOf(799));
        check.due("800: sent(800)", x.sent(800), NONE);
        check.due("800: wipe()", x.wipe(), 800);
        x = filled(800, 0, 0);
        check.due("801", x.block(1, NONE, NONE, NONE), NONE);
        check.due("still 800", x.wipe(), 800);
    }

    private static void howManyStripes() {
        ReedSets x = filled(20, 1, 0);
        check.due("lay(0)", x.lay(0), NONE);
        check.due("lay(1)", x.lay(1), 21);
        check.due("lay(16)", x.lay(16), 36);
        check.due("lay(17)", x.lay(17), NONE);
        x = filled(5, 1, 0);
        check.due("lay(5) of 5", x.lay(5), 10);
        check.due("lay(6) of 5", x.lay(6), NONE);
        x = filled(1, 1, 0);
        check.due("lay(1) of 1", x.lay(1), 2);
        check.due("lay(2) of 1", x.lay(2), NONE);
        x = filled(16, 1, 0);
        check.due("lay(16) of 16", x.lay(16), 32);
        check.due("lay(17) of 16", x.lay(17), NONE);
        x = filled(15, 1, 0);
        check.due("lay(16) of 15", x.lay(16), NONE);
        check.due("lay(15) of 15", x.lay(15), 30);
    }

    /** By k 1 and b 0 a stripe's repair byte is the xor of its data; by b 1 it tells their places, too. */
    private static void whereBytesGo() {
        ReedSets x = new ReedSets();
        x.code(1, 1, 0);
        x.block(1, 2, 4, 8);
        x.block(16, 32, 64, NONE);
        check.due("lay(3)", x.lay(3), 10);
        check.due("sent(7): 0, 3 and 6", x.sent(7), 1 ^ 8 ^ 64);
        check.due("sent(8): 1 and 4", x.sent(8), 2 ^ 16);
        check.due("sent(9): 2 and 5", x.sent(9), 4 ^ 32);
        check.due("lay(1)", x.lay(1), 8);
        check.due("sent(7): all", x.sent(7), 127);
        check.due("lay(7)", x.lay(7), 14);
        check.due("sent(7): 0 alone", x.sent(7), 1);
        check.due("sent(13): 6 alone", x.sent(13), 64);
        x.code(1, 1, 1);
        x.wipe();
        x.block(1, 0, 0, NONE);
        x.lay(1);
        check.due("DATA 0 of 3: 1 before z^3, 2^3 over 1", x.sent(3), 8);
        x.wipe();
        x.block(0, 0, 1, NONE);
        x.lay(1);
        check.due("DATA 2 of 3: 1 before z^1", x.sent(3), 2);
        x.wipe();
        x.block(0, 0, 1, 0);
        x.lay(2);
        check.due("DATA 1 of 2 in STRIPE 0", x.sent(4), 2);
        check.due("STRIPE 1 is 0", x.sent(5), 0);
    }

    private static void zerosBehind() {
        ReedSets x = new ReedSets();
        x.code(1, 1, 1);
        x.block(0, 1, 0, NONE);
        check.due("lay(2) of 3: no 0 is SENT", x.lay(2), 5);
        check.due("sent(4): DATA 0 of 2, before z^2", x.sent(4), 4);
        check.due("sent(5)", x.sent(5), NONE);
        x.block(0, NONE, NONE, NONE);
        check.due("lay(2) of 4: no 0 is behind", x.lay(2), 6);
        check.due("sent(5): before z^2 as well", x.sent(5), 4);
        x.wipe();
        x.block(0, 1, NONE, NONE);
        check.due("lay(2) of 2", x.lay(2), 4);
        check.due("sent(3): the only one, before z^1", x.sent(3), 2);
        x = laid(17, 1, 1, 16);
        check.due("17 in 16: sent(17), 1 and 17", x.sent(17), 4 ^ FieldTest.product(17, 2));
        for (int s = 1; s < 16; s++) {
            check.due("17 in 16: sent(" + (17 + s) + "), a 0 behind", x.sent(17 + s), FieldTest.product(s + 1, 4));
        }
    }

    private static void longestStripe() {
        check.due("200 in 1", filled(200, 40, 0).lay(1), 240);
        check.due("201 in 1", filled(201, 40, 0).lay(1), NONE);
        check.due("201 in 2", filled(201, 40, 0).lay(2), 281);
        check.due("400 in 2", filled(400, 40, 0).lay(2), 480);
        check.due("401 in 2", filled(401, 40, 0).lay(2), NONE);
        check.due("600 in 3", filled(600, 40, 0).lay(3), 720);
        check.due("601 in 3, one stripe too long", filled(601, 40, 0).lay(3), NONE);
        check.due("800 in 4", filled(800, 40, 0).lay(4), 960);
        check.due("800 in 3", filled(800, 40, 0).lay(3), NONE);
        ReedSets x = laid(199, 2, 0, 1);
        check.due("199 in 1: damage(0, 1, 1)", x.damage(0, 1, 1), 1);
        check.due("199 in 1: mend()", x.mend(), 1);
        x = laid(200, 40, 254, 1);
        damageAll(x, 20, 255);
        check.due("200 in 1: mend()", x.mend(), 20);
        check.due("200 in 1: wrong()", x.wrong(), 0);
    }

    private static void codeAtHand() {
        ReedSets x = new ReedSets();
        x.block(1, 2, 3, NONE);
        check.due("new CODE, k 0", x.lay(1), 3);
        check.due("sent(3)", x.sent(3), NONE);
        x.code(200, 40, 254);
        check.due("n 200 does not matter: lay(1)", x.lay(1), 43);
        x.code(1, 1, 0);
        check.due("k 1, b 0", x.lay(1), 4);
        check.due("sent(3)", x.sent(3), 1 ^ 2 ^ 3);
        x.code(1, 1, 254);
        check.due("the CODE is another one, what was SENT is not: sent(3)", x.sent(3), 1 ^ 2 ^ 3);
        check.due("lay(3) by b 254", x.lay(3), 6);
        check.due("sent(3): 1 over 2", x.sent(3), 142);
        check.due("code(1, 41, 0), none", x.code(1, 41, 0), NONE);
        check.due("lay(3), by the CODE at hand still", x.lay(3), 6);
    }

    private static void orderOfSent() {
        int[][] kinds = {{1, 1, 1}, {3, 2, 2}, {7, 3, 5}, {16, 16, 40}, {17, 16, 40}, {31, 16, 3}, {40, 1, 40}};
        for (int[] kind : kinds) {
            int m = kind[0];
            int s = kind[1];
            int k = kind[2];
            ReedSets x = laid(m, k, 254, s);
            for (int number = 0; number < s; number += 3) {
                int[] data = new int[(m + s - 1) / s];
                for (int j = number; j < m; j += s) {
                    data[j / s] = byteOf(j);
                }
                int[] word = Model.encoded(data, k, 254);
                for (int r = 0; r < k; r += 2) {
                    int i = m + r * s + number;
                    check.due(m + " in " + s + ": sent(" + i + ")", x.sent(i), word[data.length + r]);
                }
            }
            check.due(m + " in " + s + ": sent(0)", x.sent(0), 1);
            check.due(m + " in " + s + ": sent(" + (m - 1) + ")", x.sent(m - 1), byteOf(m - 1));
        }
    }

    /** What is too much for one stripe is not too much for two. */
    private static void eachByItself() {
        ReedSets x = laid(8, 2, 0, 2);
        x.damage(0, 2, 255);
        check.due("one in each", x.mend(), 2);
        check.due("wrong()", x.wrong(), 0);
        x.damage(0, 1, 255);
        x.damage(2, 1, 255);
        check.due("two in the first", x.mend(), -2);
        x = laid(800, 40, 0, 16);
        damageAll(x, 320, 1);
        check.due("a burst of 20 in each of 16", x.mend(), 320);
        check.due("wrong()", x.wrong(), 0);
        damageAll(x, 640, NONE);
        check.due("a burst of 40 lost in each of 16", x.mend(), 0);
        check.due("wrong()", x.wrong(), 0);
        x.damage(800, 100, 77);
        check.due("a burst in REPAIR BYTES", x.mend(), 100);
        check.due("wrong()", x.wrong(), 0);
    }

    /** Stripe 1 becomes as near to a word that has v where the 0 is as it could be, in data and in repair bytes. */
    private static void zerosStay() {
        for (int v = 1; v < 256; v += 127) {
            ReedSets x = new ReedSets();
            x.code(2, 2, 3);
            x.put(0, 9);
            x.put(1, v);
            x.encode();
            int[] near = {x.at(2), x.at(3)};
            x.block(1, 9, 5, NONE);
            check.due("lay(2)", x.lay(2), 7);
            int[] was = {x.sent(4), x.sent(6)};
            x.damage(4, 1, was[0] ^ near[0]);
            x.damage(6, 1, was[1] ^ near[1]);
            x.damage(0, 1, 4);
            check.due("mend(): the 0 would have to be " + v, x.mend(), -3);
            check.due("sent(0), STRIPE 0 is mended", x.sent(0), 1);
            check.due("sent(4) is as it was", x.sent(4), near[0]);
            check.due("sent(6) is as it was", x.sent(6), near[1]);
            check.due("wrong()", x.wrong(), 2);
            x.damage(4, 1, NONE);
            check.due("mend(): one error, one lost", x.mend(), -3);
            check.due("wrong(): it is lost still", x.wrong(), 2);
            x.damage(6, 1, was[1] ^ near[1]);
            check.due("mend(): one lost", x.mend(), 0);
            check.due("wrong()", x.wrong(), 0);
            x.damage(1, 1, v);
            check.due("mend(): the byte before the 0", x.mend(), 1);
            check.due("sent(1)", x.sent(1), 9);
            x.damage(2, 1, v);
            check.due("mend(): STRIPE 0 has a byte where STRIPE 1 has the 0", x.mend(), 1);
            check.due("sent(2)", x.sent(2), 5);
        }
        manyLostBesideZeros();
    }

    /** All that may be lost of STRIPES that have a 0 behind, and one more. */
    private static void manyLostBesideZeros() {
        ReedSets x = laid(17, 40, 254, 16);
        for (int i = 17; i < 657; i += 80) {
            x.damage(i, 80, NONE);
        }
        check.due("all REPAIR BYTES lost: mend()", x.mend(), 0);
        check.due("wrong()", x.wrong(), 0);
        x.damage(0, 17, NONE);
        for (int i = 17; i < 625; i += 76) {
            x.damage(i, 76, NONE);
        }
        check.due("STRIPE 0 has 40 lost, the others 39: mend()", x.mend(), 0);
        check.due("wrong()", x.wrong(), 0);
        for (int i = 1; i < 657; i += 82) {
            x.damage(i, 82, NONE);
        }
        check.due("STRIPE 0 has 41 lost: mend()", x.mend(), -2);
        check.due("wrong()", x.wrong(), 656);
    }

    // ---- promises 15 to 17

    private static void upToFour() {
        for (int set = 0; set < 16; set++) {
            ReedSets x = new ReedSets();
            int[] all = new int[4];
            int many = 0;
            for (int i = 0; i < 4; i++) {
                all[i] = (set >> i & 1) != 0 ? 255 - 255 * (i & 1) : NONE;
                many += set >> i & 1;
            }
            check.due("block() of set " + set, x.block(all[0], all[1], all[2], all[3]), many);
            check.due("block() of set " + set + " again", x.block(all[0], all[1], all[2], all[3]), 2 * many);
            check.due("lay(1)", x.lay(1), many == 0 ? NONE : 2 * many);
            int place = 0;
            for (int i = 0; i < 8; i++) {
                if (all[i & 3] != NONE) {
                    check.due("sent(" + place + ") of set " + set, x.sent(place), all[i & 3]);
                    place++;
                }
            }
            check.due("sent(" + place + ")", x.sent(place), NONE);
        }
    }

    private static void notLaidThen() {
        for (int set = 0; set < 16; set++) {
            ReedSets x = laid(3, 1, 0, 2);
            x.damage(0, 1, 1);
            int many = 3 + Integer.bitCount(set);
            int[] all = new int[4];
            for (int i = 0; i < 4; i++) {
                all[i] = (set >> i & 1) != 0 ? 7 : NONE;
            }
            check.due("block() of set " + set, x.block(all[0], all[1], all[2], all[3]), many);
            expectNotLaid("after block() of set " + set, x);
            check.due("lay(2)", x.lay(2), many + 2);
            check.due("sent(0), the BLOCK's", x.sent(0), 1);
            check.due("wrong()", x.wrong(), 0);
        }
    }

    private static void otherNumbers() {
        ReedSets x = laid(3, 1, 0, 1);
        x.damage(1, 1, 9);
        int[] others = {-2, 256, 257, FAR, LOW};
        for (int no : others) {
            check.due("block(" + no + ", 1, 1, 1)", x.block(no, 1, 1, 1), NONE);
            check.due("block(1, " + no + ", 1, 1)", x.block(1, no, 1, 1), NONE);
            check.due("block(1, 1, " + no + ", 1)", x.block(1, 1, no, 1), NONE);
            check.due("block(1, 1, 1, " + no + ")", x.block(1, 1, 1, no), NONE);
            check.due("block(" + no + ", NONE, NONE, NONE)", x.block(no, NONE, NONE, NONE), NONE);
            check.due("block(NONE, NONE, NONE, " + no + ")", x.block(NONE, NONE, NONE, no), NONE);
        }
        check.due("still laid: sent(1)", x.sent(1), 2 ^ 9);
        check.due("still laid: wrong()", x.wrong(), 1);
        check.due("lay(1): still 3", x.lay(1), 4);
        check.due("block(0, NONE, NONE, 255), the least and the greatest", x.block(0, NONE, NONE, 255), 5);
        check.due("lay(1)", x.lay(1), 6);
        check.due("sent(3)", x.sent(3), 0);
        check.due("sent(4)", x.sent(4), 255);
    }

    private static void tooManyBytes() {
        ReedSets x = filled(796, 0, 0);
        check.due("800", x.block(1, 2, 3, 4), 800);
        for (int have = 797; have <= 800; have++) {
            x = laid(have, 1, 0, 4);
            x.damage(0, 1, 5);
            check.due(have + " and four", x.block(1, 2, 3, 4), NONE);
            if (have > 797) {
                check.due(have + " and three", x.block(1, 2, 3, NONE), NONE);
            }
            if (have > 798) {
                check.due(have + " and two", x.block(NONE, 1, 2, NONE), NONE);
            }
            if (have > 799) {
                check.due(have + " and one", x.block(NONE, NONE, NONE, 1), NONE);
            }
            check.due(have + " and another number", x.block(256, NONE, NONE, NONE), NONE);
            check.due(have + ", still laid: wrong()", x.wrong(), 1);
            check.due(have + ", still laid: sent(0)", x.sent(0), 1 ^ 5);
            check.due(have + " and none", x.block(NONE, NONE, NONE, NONE), have);
            int rest = 800 - have;
            int full = x.block(rest > 0 ? 1 : NONE, rest > 1 ? 2 : NONE, NONE, rest > 2 ? 3 : NONE);
            check.due("filled up", full, 800);
            check.due("one more", x.block(NONE, 0, NONE, NONE), NONE);
            check.due("wipe()", x.wipe(), 800);
        }
    }

    private static void wipes() {
        ReedSets x = new ReedSets();
        check.due("none", x.wipe(), 0);
        check.due("none again", x.wipe(), 0);
        x.block(NONE, 5, NONE, NONE);
        check.due("one", x.wipe(), 1);
        check.due("one, again", x.wipe(), 0);
        check.due("lay(1)", x.lay(1), NONE);
        check.due("block() starts anew", x.block(6, 7, NONE, NONE), 2);
        x.lay(1);
        check.due("sent(0)", x.sent(0), 6);
        check.due("sent(1)", x.sent(1), 7);
        check.due("sent(2)", x.sent(2), NONE);
        check.due("two, laid", x.wipe(), 2);
        expectNotLaid("after wipe()", x);
        x = laid(800, 40, 0, 16);
        check.due("800, laid", x.wipe(), 800);
        expectNotLaid("after wipe() of 800", x);
        check.due("lay(16)", x.lay(16), NONE);
        check.due("block() has room again", x.block(1, 2, 3, 4), 4);
    }

    private static void howManySent() {
        laid(1, 0, 0, 1);
        laid(1, 40, 0, 1);
        laid(800, 0, 0, 16);
        ReedSets x = laid(800, 40, 254, 16);
        check.due("1440: sent(1439)", x.sent(1439) & ~255, 0);
        check.due("1440: sent(1440)", x.sent(1440), NONE);
        check.due("lay(4), again", x.lay(4), 960);
        check.due("sent(959)", x.sent(959) & ~255, 0);
        check.due("sent(960)", x.sent(960), NONE);
    }

    private static void otherStripes() {
        ReedSets x = laid(3, 2, 0, 2);
        x.damage(0, 1, 1);
        x.damage(6, 1, NONE);
        int[] none = {0, -1, 4, 16, 17, FAR, LOW};
        for (int s : none) {
            check.due("lay(" + s + ")", x.lay(s), NONE);
        }
        check.due("laid as before: sent(0)", x.sent(0), 0);
        check.due("sent(6), the last", x.sent(6) & ~255, 0);
        check.due("sent(7)", x.sent(7), NONE);
        check.due("wrong()", x.wrong(), 2);
        check.due("mend()", x.mend(), 1);
        x = filled(3, 2, 0);
        check.due("not laid: lay(4)", x.lay(4), NONE);
        expectNotLaid("after lay(4)", x);
    }

    private static void noBytes() {
        ReedSets x = new ReedSets();
        for (int s = -1; s <= 17; s++) {
            check.due("new: lay(" + s + ")", x.lay(s), NONE);
        }
        x.block(NONE, NONE, NONE, NONE);
        check.due("block() of none: lay(1)", x.lay(1), NONE);
        x.block(1, NONE, NONE, NONE);
        check.due("one: lay(1)", x.lay(1), 1);
        x.wipe();
        check.due("wiped: lay(1)", x.lay(1), NONE);
        expectNotLaid("after that", x);
    }

    /** 200 and 40 are 240, so the 255 are never reached. */
    private static void tooLongStripes() {
        check.due("240 in a STRIPE", filled(200, 40, 0).lay(1), 240);
        ReedSets x = laid(800, 40, 0, 4);
        x.damage(959, 1, 3);
        for (int s = 1; s <= 3; s++) {
            check.due("800: lay(" + s + ")", x.lay(s), NONE);
        }
        check.due("laid as before: wrong()", x.wrong(), 1);
        check.due("mend()", x.mend(), 1);
        check.due("sent(960)", x.sent(960), NONE);
        x = filled(401, 0, 0);
        check.due("k 0, 401: lay(2)", x.lay(2), NONE);
        expectNotLaid("after lay(2)", x);
        check.due("k 0, 401: lay(3)", x.lay(3), 401);
    }

    // ---- promises 18 to 21

    private static void asItIsNow() {
        ReedSets x = laid(6, 2, 0, 2);
        int last = x.sent(9);
        check.due("laid: sent(0)", x.sent(0), 1);
        x.damage(0, 1, 254);
        x.damage(9, 1, 1);
        check.due("damaged: sent(0)", x.sent(0), 255);
        check.due("damaged: sent(9)", x.sent(9), last ^ 1);
        x.damage(0, 1, NONE);
        check.due("lost: sent(0)", x.sent(0), 255);
        check.due("mend(): one lost, one error", x.mend(), 1);
        check.due("mended: sent(0)", x.sent(0), 1);
        check.due("mended: sent(9)", x.sent(9), last);
    }

    private static void noneSent() {
        ReedSets x = filled(6, 2, 0);
        expectNotLaid("before lay()", x);
        x.lay(2);
        check.due("sent(-1)", x.sent(-1), NONE);
        check.due("sent(9) is one", x.sent(9) & ~255, 0);
        check.due("sent(10)", x.sent(10), NONE);
        check.due("sent(FAR)", x.sent(FAR), NONE);
        check.due("sent(LOW)", x.sent(LOW), NONE);
        x.block(1, NONE, NONE, NONE);
        for (int i = -1; i < 11; i++) {
            check.due("not laid any more: sent(" + i + ")", x.sent(i), NONE);
        }
        x.lay(2);
        x.wipe();
        for (int i = -1; i < 12; i++) {
            check.due("wiped: sent(" + i + ")", x.sent(i), NONE);
        }
    }

    private static void howManyDamaged() {
        ReedSets x = laid(200, 0, 0, 1);
        int[] none = {0, -1, 101, 200, FAR, LOW};
        for (int many : none) {
            check.due("damage(0, " + many + ", 1)", x.damage(0, many, 1), NONE);
            check.due("damage(0, " + many + ", NONE)", x.damage(0, many, NONE), NONE);
        }
        check.due("wrong()", x.wrong(), 0);
        check.due("damage(50, 1, 1)", x.damage(50, 1, 1), 1);
        check.due("wrong(), one", x.wrong(), 1);
        check.due("sent(49)", x.sent(49), 50);
        check.due("sent(50)", x.sent(50), 51 ^ 1);
        check.due("sent(51)", x.sent(51), 52);
        check.due("damage(51, 100, 1)", x.damage(51, 100, 1), 1);
        check.due("wrong(), a hundred more", x.wrong(), 101);
        check.due("sent(150)", x.sent(150), 151 ^ 1);
        check.due("sent(151)", x.sent(151), 152);
        check.due("damage(0, 100, NONE)", x.damage(0, 100, NONE), 1);
        check.due("wrong()", x.wrong(), 151);
    }

    private static void xored() {
        ReedSets x = laid(4, 1, 0, 1);
        check.due("damage(0, 5, 0)", x.damage(0, 5, 0), 1);
        check.due("wrong(), xor 0", x.wrong(), 0);
        check.due("damage(0, 4, 255)", x.damage(0, 4, 255), 1);
        for (int i = 0; i < 4; i++) {
            check.due("sent(" + i + ")", x.sent(i), i + 1 ^ 255);
        }
        check.due("damage(0, 4, 255) again", x.damage(0, 4, 255), 1);
        check.due("wrong(), xor twice", x.wrong(), 0);
        int[] none = {-2, 256, 257, FAR, LOW};
        for (int v : none) {
            check.due("damage(0, 1, " + v + ")", x.damage(0, 1, v), NONE);
        }
        check.due("wrong()", x.wrong(), 0);
    }

    private static void lost() {
        ReedSets x = laid(4, 1, 0, 1);
        check.due("damage(4, 1, NONE)", x.damage(4, 1, NONE), 1);
        check.due("wrong()", x.wrong(), 1);
        check.due("mend()", x.mend(), 0);
        check.due("wrong()", x.wrong(), 0);
        check.due("damage(0, 1, NONE)", x.damage(0, 1, NONE), 1);
        check.due("damage(0, 1, NONE) again", x.damage(0, 1, NONE), 1);
        check.due("damage(0, 1, 7), it is lost still", x.damage(0, 1, 7), 1);
        check.due("wrong()", x.wrong(), 1);
        check.due("mend()", x.mend(), 0);
        check.due("sent(0)", x.sent(0), 1);
        check.due("damage(0, 5, NONE), all", x.damage(0, 5, NONE), 1);
        check.due("wrong()", x.wrong(), 5);
        check.due("mend()", x.mend(), -2);
        check.due("wrong(), all are lost still", x.wrong(), 5);
        x.lay(1);
        check.due("laid again: wrong()", x.wrong(), 0);
    }

    private static void noDamage() {
        ReedSets x = filled(150, 2, 0);
        expectNotLaid("before lay()", x);
        x.lay(3);
        int[][] none = {
            {-1, 1}, {-1, 2}, {-100, 100}, {156, 1}, {155, 2}, {57, 100}, {156, 0}, {FAR, 1}, {FAR, 100}, {LOW, 1},
            {LOW, 100}, {FAR, FAR}, {1, FAR}, {LOW, LOW}
        };
        for (int[] d : none) {
            check.due("damage(" + d[0] + ", " + d[1] + ", 255)", x.damage(d[0], d[1], 255), NONE);
            check.due("damage(" + d[0] + ", " + d[1] + ", NONE)", x.damage(d[0], d[1], NONE), NONE);
        }
        check.due("wrong(): none is, also not of those that there are", x.wrong(), 0);
        check.due("damage(155, 1, 1), the last", x.damage(155, 1, 1), 1);
        check.due("damage(56, 100, 1), up to the last", x.damage(56, 100, 1), 1);
        check.due("wrong()", x.wrong(), 99);
        check.due("damage(0, 1, 1), the first", x.damage(0, 1, 1), 1);
        check.due("wrong()", x.wrong(), 100);
    }

    private static void sumOfAll() {
        ReedSets x = laid(1, 0, 0, 1);
        check.due("k 0: mend()", x.mend(), 0);
        x.damage(0, 1, 255);
        check.due("k 0, another byte: mend()", x.mend(), 0);
        check.due("k 0: sent(0) stays", x.sent(0), 1 ^ 255);
        x = laid(800, 40, 0, 16);
        check.due("as laid: mend()", x.mend(), 0);
        damageAll(x, 320, 255);
        check.due("20 in each of 16: mend()", x.mend(), 320);
        damageAll(x, 640, NONE);
        check.due("640 lost: mend()", x.mend(), 0);
        damageAll(x, 320, NONE);
        x.damage(320, 100, 1);
        x.damage(420, 60, 1);
        check.due("20 lost and 10 errors in each: mend()", x.mend(), 160);
        x.damage(1439, 1, 1);
        check.due("one in the last STRIPE: mend()", x.mend(), 1);
        check.due("wrong()", x.wrong(), 0);
    }

    private static void firstThatCannot() {
        for (int s = 0; s < 16; s++) {
            ReedSets x = laid(32, 1, 0, 16);
            x.damage(s, 1, 1);
            check.due("STRIPE " + s + ": mend()", x.mend(), -2 - s);
            x.damage(s, 1, NONE);
            check.due("STRIPE " + s + " has it lost: mend()", x.mend(), 0);
        }
        ReedSets y = laid(1, 0, 0, 1);
        y.damage(0, 1, NONE);
        check.due("k 0, lost: mend()", y.mend(), -2);
        ReedSets z = laid(16, 2, 0, 4);
        z.damage(2, 2, 1);
        z.damage(6, 2, 1);
        check.due("two cannot be: mend()", z.mend(), -4);
    }

    private static void beforeAndBehind() {
        ReedSets x = laid(16, 2, 0, 4);
        x.damage(0, 4, 1);
        x.damage(5, 1, 1);
        x.damage(8, 1, NONE);
        x.damage(8, 1, NONE);
        x.damage(14, 2, NONE);
        check.due("STRIPE 0: one error and one lost: mend()", x.mend(), -2);
        check.due("nothing is mended: wrong()", x.wrong(), 8);
        x.damage(8, 1, 77);
        x.damage(0, 1, 1);
        check.due("STRIPE 1: two errors: mend()", x.mend(), -3);
        check.due("sent(8), lost, is mended", x.sent(8), 9);
        check.due("wrong()", x.wrong(), 6);
        x.damage(5, 1, 1);
        check.due("STRIPE 2: one error and one lost: mend()", x.mend(), -4);
        check.due("sent(1) is mended", x.sent(1), 2);
        check.due("sent(2) is not", x.sent(2), 3 ^ 1);
        check.due("sent(3) is not looked at", x.sent(3), 4 ^ 1);
        check.due("wrong()", x.wrong(), 4);
        x.damage(2, 2, 1);
        check.due("the others: mend()", x.mend(), 0);
        check.due("wrong()", x.wrong(), 0);
    }

    private static void nothingToMend() {
        ReedSets x = new ReedSets();
        check.due("new: mend()", x.mend(), NONE);
        x.block(1, 2, 3, 4);
        check.due("not laid: mend()", x.mend(), NONE);
        x.lay(5);
        check.due("lay(5) was refused: mend()", x.mend(), NONE);
        x.lay(4);
        check.due("laid: mend()", x.mend(), 0);
        x.block(NONE, NONE, NONE, NONE);
        check.due("not laid any more: mend()", x.mend(), NONE);
        x.lay(4);
        x.wipe();
        check.due("wiped: mend()", x.mend(), NONE);
    }

    private static void howManyWrong() {
        ReedSets x = laid(800, 40, 0, 16);
        check.due("none: wrong()", x.wrong(), 0);
        damageAll(x, 1440, 128);
        check.due("all: wrong()", x.wrong(), 1440);
        damageAll(x, 1440, NONE);
        check.due("all, and lost: wrong()", x.wrong(), 1440);
        damageAll(x, 1440, 128);
        check.due("as they were, but lost: wrong()", x.wrong(), 1440);
        check.due("mend()", x.mend(), -2);
        check.due("wrong()", x.wrong(), 1440);
        check.due("lay(16)", x.lay(16), 1440);
        check.due("laid again: wrong()", x.wrong(), 0);
        x.damage(1439, 1, 1);
        check.due("the last: wrong()", x.wrong(), 1);
        x.damage(0, 1, NONE);
        check.due("the first, lost: wrong()", x.wrong(), 2);
        x.damage(1439, 1, 1);
        check.due("the last is as it was: wrong()", x.wrong(), 1);
    }

    private static void nothingWrong() {
        ReedSets x = new ReedSets();
        check.due("new: wrong()", x.wrong(), NONE);
        x.block(1, 2, 3, 4);
        check.due("not laid: wrong()", x.wrong(), NONE);
        x.lay(0);
        check.due("lay(0) was refused: wrong()", x.wrong(), NONE);
        x.lay(1);
        check.due("laid: wrong()", x.wrong(), 0);
        x.block(5, NONE, NONE, NONE);
        check.due("not laid any more: wrong()", x.wrong(), NONE);
        x.lay(1);
        x.wipe();
        check.due("wiped: wrong()", x.wrong(), NONE);
    }
}
