/** The edges that the document names in section 1 and in the promises 1 to 5, a test for each sentence. */
public final class FieldEdgesTest {
    private static final Check check = new Check();
    private static final int NONE = ReedSets.NONE;
    private static final int FAR = Integer.MAX_VALUE;
    private static final int LOW = Integer.MIN_VALUE;
    private static final int[] NO_BYTES = {-1, 256, -2, 257, -255, -256, 511, 512, FAR, LOW};

    public static void main(String[] args) {
        check.sentence("Terms: BYTES 0 .. 255", FieldEdgesTest::bytes);
        check.sentence("Terms: modulo x^8 + x^4 + x^3 + x^2 + 1", FieldEdgesTest::modulo);
        check.sentence("Terms: all BYTES but 0 are its powers", FieldEdgesTest::allArePowers);
        check.sentence("Terms: A^255 is 1", FieldEdgesTest::powersComeAround);
        check.sentence("1: The CODE of n = 1, k = 0, b = 0", FieldEdgesTest::newCode);
        check.sentence("1: THE WORD 0, nothing LOST", FieldEdgesTest::newWord);
        check.sentence("1: no BLOCK", FieldEdgesTest::newBlock);
        check.sentence("1: SHARES of d = 1, w = 1, none told", FieldEdgesTest::newShares);
        check.sentence("2: A product", FieldEdgesTest::products);
        check.sentence("2: NONE: one is no BYTE", FieldEdgesTest::productsOfNoBytes);
        check.sentence("2: (so in all of these)", FieldEdgesTest::othersOfNoBytes);
        check.sentence("3: A quotient", FieldEdgesTest::quotients);
        check.sentence("3: NONE: also b = 0", FieldEdgesTest::quotientsByZero);
        check.sentence("4: a^e, e any int", FieldEdgesTest::anyPower);
        check.sentence("4: (0^0 is 1)", FieldEdgesTest::zeroToZero);
        check.sentence("4: NONE: also 0 with e below 0", FieldEdgesTest::zeroBelowZero);
        check.sentence("5: For which e (0 .. 254) A^e is a", FieldEdgesTest::logs);
        check.sentence("5: NONE: also a = 0", FieldEdgesTest::logOfZero);
        check.end();
    }

    private static void bytes() {
        ReedSets x = new ReedSets();
        check.due("times(0, 255)", x.times(0, 255), 0);
        check.due("times(255, 0)", x.times(255, 0), 0);
        check.due("times(255, 255)", x.times(255, 255), 226);
        check.due("times(-1, 255)", x.times(-1, 255), NONE);
        check.due("times(256, 255)", x.times(256, 255), NONE);
        check.due("times(255, -1)", x.times(255, -1), NONE);
        check.due("times(255, 256)", x.times(255, 256), NONE);
    }

    private static void modulo() {
        ReedSets x = new ReedSets();
        check.due("times(127, 2), just below x^8", x.times(127, 2), 254);
        check.due("times(128, 2), x^8 itself", x.times(128, 2), 29);
        check.due("times(255, 2)", x.times(255, 2), 227);
        check.due("times(128, 128), x^14, the highest", x.times(128, 128), 19);
    }

    private static void allArePowers() {
        ReedSets x = new ReedSets();
        boolean[] met = new boolean[256];
        for (int e = 0; e < 255; e++) {
            int value = x.power(2, e);
            check.isTrue("power(2, " + e + ") is a BYTE, and not 0", value >= 1 && value <= 255);
            check.isTrue("power(2, " + e + ") is a new one", !met[value & 255]);
            met[value & 255] = true;
        }
    }

    private static void powersComeAround() {
        ReedSets x = new ReedSets();
        check.due("power(2, 254)", x.power(2, 254), 142);
        check.due("power(2, 255)", x.power(2, 255), 1);
        check.due("power(2, 256)", x.power(2, 256), 2);
        check.due("power(2, -1)", x.power(2, -1), 142);
        check.due("power(2, -254)", x.power(2, -254), 2);
        check.due("power(2, -255)", x.power(2, -255), 1);
        check.due("power(2, -256)", x.power(2, -256), 142);
        check.due("times(142, 2)", x.times(142, 2), 1);
        for (int a = 1; a < 256; a++) {
            check.due("power(" + a + ", 255)", x.power(a, 255), 1);
        }
    }

    private static void newCode() {
        ReedSets x = new ReedSets();
        check.due("at(0)", x.at(0), 0);
        check.due("at(1)", x.at(1), NONE);
        check.due("put(1, 1)", x.put(1, 1), NONE);
        check.due("lose(1)", x.lose(1), NONE);
        check.due("generator(0)", x.generator(0), 1);
        check.due("generator(1)", x.generator(1), NONE);
        check.due("syndrome(0)", x.syndrome(0), NONE);
        check.due("put(0, 255)", x.put(0, 255), 0);
        check.due("encode()", x.encode(), 1);
        check.due("repair(), all words are right", x.repair(), 0);
        check.due("at(0)", x.at(0), 255);
    }

    private static void newWord() {
        check.due("at(0)", new ReedSets().at(0), 0);
        check.due("put(0, 9)", new ReedSets().put(0, 9), 0);
        check.due("encode(), no DATA place is LOST", new ReedSets().encode(), 1);
        check.due("repair()", new ReedSets().repair(), 0);
        ReedSets x = new ReedSets();
        check.due("lose(0)", x.lose(0), 1);
        check.due("repair() of one lost, k 0", x.repair(), NONE);
        check.due("encode()", x.encode(), NONE);
        check.due("changed(0, 0), no repair() told t", x.changed(0, 0), NONE);
        check.due("changed(0, 1)", x.changed(0, 1), NONE);
    }

    private static void newBlock() {
        check.due("wipe()", new ReedSets().wipe(), 0);
        check.due("block() of none", new ReedSets().block(NONE, NONE, NONE, NONE), 0);
        check.due("block() of one", new ReedSets().block(NONE, NONE, NONE, 0), 1);
        check.due("lay(1)", new ReedSets().lay(1), NONE);
        check.due("lay(0)", new ReedSets().lay(0), NONE);
        check.due("sent(0)", new ReedSets().sent(0), NONE);
        check.due("damage(0, 1, 0)", new ReedSets().damage(0, 1, 0), NONE);
        check.due("damage(0, 1, NONE)", new ReedSets().damage(0, 1, NONE), NONE);
        check.due("mend()", new ReedSets().mend(), NONE);
        check.due("wrong()", new ReedSets().wrong(), NONE);
    }

    private static void newShares() {
        ReedSets x = new ReedSets();
        for (int s = 0; s < 256; s++) {
            check.due("drop(" + s + ")", x.drop(s), NONE);
        }
        check.due("made(0, 0)", x.made(0, 0), NONE);
        check.due("apart()", x.apart(), NONE);
        check.due("odd()", x.odd(), NONE);
        check.due("share(255, 1, 3), w being 1", x.share(255, 1, 3), NONE);
        check.due("made(0, 0), it was not told", x.made(0, 0), NONE);
        check.due("share(255, 0, 3)", x.share(255, 0, 3), 1);
        check.due("made(0, 0), d being 1", x.made(0, 0), 3);
        check.due("made(0, 1)", x.made(0, 1), NONE);
        check.due("apart()", x.apart(), 0);
        check.due("odd()", x.odd(), 256);
    }

    private static void products() {
        ReedSets x = new ReedSets();
        check.due("times(0, 0)", x.times(0, 0), 0);
        check.due("times(0, 1)", x.times(0, 1), 0);
        check.due("times(1, 0)", x.times(1, 0), 0);
        check.due("times(1, 1)", x.times(1, 1), 1);
        check.due("times(1, 255)", x.times(1, 255), 255);
        check.due("times(255, 1)", x.times(255, 1), 255);
        check.due("times(2, 2)", x.times(2, 2), 4);
        check.due("times(142, 142), the logs come around", x.times(142, 142), 71);
    }

    private static void productsOfNoBytes() {
        ReedSets x = new ReedSets();
        for (int no : NO_BYTES) {
            check.due("times(" + no + ", 0)", x.times(no, 0), NONE);
            check.due("times(" + no + ", 255)", x.times(no, 255), NONE);
            check.due("times(0, " + no + ")", x.times(0, no), NONE);
            check.due("times(255, " + no + ")", x.times(255, no), NONE);
            check.due("times(" + no + ", " + no + ")", x.times(no, no), NONE);
        }
    }

    private static void othersOfNoBytes() {
        ReedSets x = new ReedSets();
        for (int no : NO_BYTES) {
            check.due("over(" + no + ", 0)", x.over(no, 0), NONE);
            check.due("over(" + no + ", 1)", x.over(no, 1), NONE);
            check.due("over(" + no + ", 255)", x.over(no, 255), NONE);
            check.due("over(0, " + no + ")", x.over(0, no), NONE);
            check.due("over(255, " + no + ")", x.over(255, no), NONE);
            check.due("over(" + no + ", " + no + ")", x.over(no, no), NONE);
            check.due("power(" + no + ", 0)", x.power(no, 0), NONE);
            check.due("power(" + no + ", 1)", x.power(no, 1), NONE);
            check.due("power(" + no + ", -1)", x.power(no, -1), NONE);
            check.due("power(" + no + ", LOW)", x.power(no, LOW), NONE);
            check.due("log(" + no + ")", x.log(no), NONE);
        }
    }

    private static void quotients() {
        ReedSets x = new ReedSets();
        check.due("over(0, 1)", x.over(0, 1), 0);
        check.due("over(0, 255)", x.over(0, 255), 0);
        check.due("over(255, 1)", x.over(255, 1), 255);
        check.due("over(255, 255)", x.over(255, 255), 1);
        check.due("over(1, 255)", x.over(1, 255), 253);
        check.due("over(1, 2), the logs come around", x.over(1, 2), 142);
        check.due("over(1, 142), the greatest log", x.over(1, 142), 2);
        check.due("over(142, 1)", x.over(142, 1), 142);
    }

    private static void quotientsByZero() {
        ReedSets x = new ReedSets();
        check.due("over(0, 0)", x.over(0, 0), NONE);
        check.due("over(1, 0)", x.over(1, 0), NONE);
        check.due("over(255, 0)", x.over(255, 0), NONE);
        check.due("over(-1, 0)", x.over(-1, 0), NONE);
        check.due("over(256, 0)", x.over(256, 0), NONE);
        check.due("over(255, 1)", x.over(255, 1), 255);
    }

    private static void anyPower() {
        ReedSets x = new ReedSets();
        check.due("power(2, FAR)", x.power(2, FAR), 204);
        check.due("power(2, LOW)", x.power(2, LOW), 204);
        check.due("power(255, FAR)", x.power(255, FAR), 106);
        check.due("power(255, LOW)", x.power(255, LOW), 106);
        check.due("power(3, FAR)", x.power(3, FAR), 124);
        check.due("power(142, 254)", x.power(142, 254), 2);
        check.due("power(142, -254)", x.power(142, -254), 142);
        check.due("power(1, FAR)", x.power(1, FAR), 1);
        check.due("power(1, LOW)", x.power(1, LOW), 1);
        check.due("power(1, 0)", x.power(1, 0), 1);
        check.due("power(1, -1)", x.power(1, -1), 1);
        check.due("power(255, 0)", x.power(255, 0), 1);
        check.due("power(255, 1)", x.power(255, 1), 255);
        check.due("power(255, -1)", x.power(255, -1), 253);
        check.due("power(0, 1)", x.power(0, 1), 0);
        check.due("power(0, FAR)", x.power(0, FAR), 0);
    }

    private static void zeroToZero() {
        ReedSets x = new ReedSets();
        check.due("power(0, 0)", x.power(0, 0), 1);
        check.due("power(0, 1)", x.power(0, 1), 0);
        check.due("power(0, 255), 0^0 does not come around", x.power(0, 255), 0);
        check.due("power(0, 510)", x.power(0, 510), 0);
    }

    private static void zeroBelowZero() {
        ReedSets x = new ReedSets();
        check.due("power(0, -1)", x.power(0, -1), NONE);
        check.due("power(0, -254)", x.power(0, -254), NONE);
        check.due("power(0, -255)", x.power(0, -255), NONE);
        check.due("power(0, -256)", x.power(0, -256), NONE);
        check.due("power(0, LOW)", x.power(0, LOW), NONE);
        check.due("power(1, -1), no 0", x.power(1, -1), 1);
    }

    private static void logs() {
        ReedSets x = new ReedSets();
        check.due("log(1), the least", x.log(1), 0);
        check.due("log(2)", x.log(2), 1);
        check.due("log(142), the greatest", x.log(142), 254);
        check.due("log(255)", x.log(255), 175);
        for (int a = 1; a < 256; a++) {
            int e = x.log(a);
            check.isTrue("log(" + a + ") is 0 .. 254", e >= 0 && e <= 254);
            check.due("power(2, log(" + a + "))", new ReedSets().power(2, e), a);
        }
    }

    private static void logOfZero() {
        ReedSets x = new ReedSets();
        check.due("log(0)", x.log(0), NONE);
        check.due("log(1)", x.log(1), 0);
        check.due("log(-1)", x.log(-1), NONE);
        check.due("log(256)", x.log(256), NONE);
    }
}
