/** Promises 1 to 5: a new object, and the field. */
public final class FieldTest {
    private static final Check check = new Check();

    public static void main(String[] args) {
        newObject();
        products();
        quotients();
        powers();
        logs();
        check.end();
    }

    /** The product by its definition, bit by bit. */
    static int product(int a, int b) {
        int sum = 0;
        for (int i = 0; i < 8; i++) {
            if ((b >> i & 1) != 0) {
                sum ^= a << i;
            }
        }
        for (int i = 14; i >= 8; i--) {
            if ((sum >> i & 1) != 0) {
                sum ^= 0b100011101 << (i - 8);
            }
        }
        return sum;
    }

    private static void newObject() {
        check.due("NONE", ReedSets.NONE, -1);
        check.due("new: generator(0)", new ReedSets().generator(0), 1);
        check.due("new: generator(1)", new ReedSets().generator(1), -1);
        check.due("new: at(0)", new ReedSets().at(0), 0);
        check.due("new: at(1)", new ReedSets().at(1), -1);
        check.due("new: syndrome(0)", new ReedSets().syndrome(0), -1);
        check.due("new: lose(0)", new ReedSets().lose(0), 1);
        check.due("new: encode()", new ReedSets().encode(), 1);
        check.due("new: repair()", new ReedSets().repair(), 0);
        check.due("new: changed(0, 0)", new ReedSets().changed(0, 0), -1);
        check.due("new: changed(0, 1)", new ReedSets().changed(0, 1), -1);
        check.due("new: wipe()", new ReedSets().wipe(), 0);
        check.due("new: lay(1)", new ReedSets().lay(1), -1);
        check.due("new: sent(0)", new ReedSets().sent(0), -1);
        check.due("new: damage(0, 1, 1)", new ReedSets().damage(0, 1, 1), -1);
        check.due("new: mend()", new ReedSets().mend(), -1);
        check.due("new: wrong()", new ReedSets().wrong(), -1);
        check.due("new: drop(0)", new ReedSets().drop(0), -1);
        check.due("new: made(0, 0)", new ReedSets().made(0, 0), -1);
        check.due("new: apart()", new ReedSets().apart(), -1);
        check.due("new: odd()", new ReedSets().odd(), -1);
        ReedSets one = new ReedSets();
        check.due("new: share(9, 1, 7)", one.share(9, 1, 7), -1);
        check.due("new: share(9, 0, 7)", one.share(9, 0, 7), 1);
        check.due("new: made(200, 0), d being 1", one.made(200, 0), 7);
        ReedSets two = new ReedSets();
        two.block(1, 2, 3, NONE);
        check.due("new: lay(2), k being 0", two.lay(2), 3);
    }

    private static final int NONE = ReedSets.NONE;
    private static final int[] NO_BYTES = {-1, -2, 256, 257, 511, 512, 65536, Integer.MAX_VALUE, Integer.MIN_VALUE};

    private static void products() {
        for (int a = 0; a < 256; a++) {
            ReedSets x = new ReedSets();
            for (int b = 0; b < 256; b++) {
                check.due("times(" + a + ", " + b + ")", x.times(a, b), product(a, b));
            }
        }
        ReedSets x = new ReedSets();
        for (int no : NO_BYTES) {
            check.due("times(" + no + ", 0)", x.times(no, 0), NONE);
            check.due("times(0, " + no + ")", x.times(0, no), NONE);
            check.due("times(" + no + ", 3)", x.times(no, 3), NONE);
            check.due("times(3, " + no + ")", x.times(3, no), NONE);
            check.due("times(" + no + ", " + no + ")", x.times(no, no), NONE);
        }
    }

    private static void quotients() {
        for (int b = 1; b < 256; b++) {
            ReedSets x = new ReedSets();
            for (int q = 0; q < 256; q++) {
                int a = product(q, b);
                check.due("over(" + a + ", " + b + ")", x.over(a, b), q);
            }
        }
        ReedSets x = new ReedSets();
        check.due("over(0, 0)", x.over(0, 0), NONE);
        check.due("over(1, 0)", x.over(1, 0), NONE);
        check.due("over(255, 0)", x.over(255, 0), NONE);
        for (int no : NO_BYTES) {
            check.due("over(" + no + ", 1)", x.over(no, 1), NONE);
            check.due("over(0, " + no + ")", x.over(0, no), NONE);
            check.due("over(7, " + no + ")", x.over(7, no), NONE);
            check.due("over(" + no + ", 0)", x.over(no, 0), NONE);
        }
    }

    private static void powers() {
        for (int a = 1; a < 256; a++) {
            ReedSets x = new ReedSets();
            int value = 1;
            for (int e = 0; e < 256; e++) {
                check.due("power(" + a + ", " + e + ")", x.power(a, e), value);
                // a^255 is 1, so a^(e - 255) is a^e.
                check.due("power(" + a + ", " + (e - 255) + ")", x.power(a, e - 255), value);
                value = product(value, a);
            }
        }
        for (int a = 1; a < 256; a++) {
            ReedSets x = new ReedSets();
            int[] far = {
                Integer.MAX_VALUE, Integer.MIN_VALUE, Integer.MIN_VALUE + 1, 1 << 30, -(1 << 30), 8421505, -8421505
            };
            for (int e : far) {
                check.due("power(" + a + ", " + e + ")", x.power(a, e), farPower(a, e));
            }
        }
        ReedSets x = new ReedSets();
        check.due("power(0, 0)", x.power(0, 0), 1);
        check.due("power(0, 1)", x.power(0, 1), 0);
        check.due("power(0, 255)", x.power(0, 255), 0);
        check.due("power(0, 510)", x.power(0, 510), 0);
        check.due("power(0, MAX)", x.power(0, Integer.MAX_VALUE), 0);
        check.due("power(0, -1)", x.power(0, -1), NONE);
        check.due("power(0, -255)", x.power(0, -255), NONE);
        check.due("power(0, MIN)", x.power(0, Integer.MIN_VALUE), NONE);
        for (int no : NO_BYTES) {
            check.due("power(" + no + ", 0)", x.power(no, 0), NONE);
            check.due("power(" + no + ", 1)", x.power(no, 1), NONE);
            check.due("power(" + no + ", -1)", x.power(no, -1), NONE);
        }
    }

    private static int farPower(int a, int e) {
        long rest = ((long) e % 255 + 255) % 255;
        int value = 1;
        for (long i = 0; i < rest; i++) {
            value = product(value, a);
        }
        return value;
    }

    private static void logs() {
        ReedSets x = new ReedSets();
        int value = 1;
        for (int e = 0; e < 255; e++) {
            check.due("log(" + value + ")", x.log(value), e);
            value = product(value, 2);
        }
        check.due("log(0)", x.log(0), NONE);
        for (int no : NO_BYTES) {
            check.due("log(" + no + ")", x.log(no), NONE);
        }
    }
}
