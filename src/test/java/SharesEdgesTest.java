/** The edges that the document names in section 4 and in the promises 22 to 27, a test for each sentence. */
public final class SharesEdgesTest {
    private static final Check check = new Check();
    private static final int NONE = ReedSets.NONE;
    private static final int FAR = Integer.MAX_VALUE;
    private static final int LOW = Integer.MIN_VALUE;

    public static void main(String[] args) {
        check.sentence("4: d rows of w BYTES (d 1 .. 20, w 1 .. 16)", SharesEdgesTest::howManyRows);
        check.sentence("4: SHARE x (0 .. 255) is the value at the BYTE x", SharesEdgesTest::numbers);
        check.sentence("4: a polynomial of degree below d", SharesEdgesTest::degrees);
        check.sentence("4: one for each i", SharesEdgesTest::eachPlace);
        check.sentence("4: Any d SHARES tell all", SharesEdgesTest::anyTellAll);
        check.sentence("22: SHARES of d and w, none told: 1", SharesEdgesTest::startsAnew);
        check.sentence("22: NONE", SharesEdgesTest::noShares);
        check.sentence("23: Place i of SHARE x is v", SharesEdgesTest::tells);
        check.sentence("23: (other places 0, if it was not)", SharesEdgesTest::otherPlaces);
        check.sentence("23: how many SHARES are told", SharesEdgesTest::howManyTold);
        check.sentence("23: NONE", SharesEdgesTest::tellsNone);
        check.sentence("24: SHARE x is not told any more: how many are", SharesEdgesTest::drops);
        check.sentence("24: NONE: it is not", SharesEdgesTest::dropsNone);
        check.sentence("25: by the d told ones with the least numbers", SharesEdgesTest::makes);
        check.sentence("25: NONE: none such", SharesEdgesTest::makesNone);
        check.sentence("25: fewer than d are told", SharesEdgesTest::makesTooEarly);
        check.sentence("26: How many SHARES that are told are others than made() tells", SharesEdgesTest::countsApart);
        check.sentence("26: NONE: fewer than d are told", SharesEdgesTest::apartTooEarly);
        check.sentence("27: the least number x for which the others", SharesEdgesTest::leastOdd);
        check.sentence("27: (d or more must be left)", SharesEdgesTest::enoughLeft);
        check.sentence("27: 256 if all agree", SharesEdgesTest::noneOdd);
        check.sentence("27: NONE: there is none such", SharesEdgesTest::tooManyOdd);
        check.sentence("27: fewer than d are told", SharesEdgesTest::oddTooEarly);
        check.end();
    }

    private static ReedSets sharing(int d, int w) {
        ReedSets x = new ReedSets();
        check.due("shares(" + d + ", " + w + ")", x.shares(d, w), 1);
        return x;
    }

    /** The value at s of a polynomial of degree d - 1, none of whose parts is 0. */
    private static int value(int d, int s) {
        int sum = 0;
        for (int i = d - 1; i >= 0; i--) {
            sum = FieldTest.product(sum, s) ^ (37 * i % 255 + 1);
        }
        return sum;
    }

    private static void tell(ReedSets x, int d, int from, int to) {
        for (int s = from; s < to; s++) {
            x.share(s, 0, value(d, s));
        }
    }

    // ---- section 4

    private static void howManyRows() {
        ReedSets x = sharing(1, 1);
        check.due("w 1: share(0, 0, 5)", x.share(0, 0, 5), 1);
        check.due("w 1: share(0, 1, 5)", x.share(0, 1, 5), NONE);
        check.due("d 1: made(9, 0)", x.made(9, 0), 5);
        x = sharing(20, 16);
        check.due("w 16: share(0, 15, 5)", x.share(0, 15, 5), 1);
        check.due("w 16: share(0, 16, 5)", x.share(0, 16, 5), NONE);
        for (int s = 1; s < 19; s++) {
            x.share(s, 15, 5);
        }
        check.due("d 20, 19 told: made(200, 15)", x.made(200, 15), NONE);
        x.share(19, 15, 5);
        check.due("d 20, 20 told: made(200, 15)", x.made(200, 15), 5);
        int[] noD = {0, -1, 21, FAR, LOW};
        for (int d : noD) {
            check.due("shares(" + d + ", 1)", x.shares(d, 1), NONE);
            check.due("shares(" + d + ", 16)", x.shares(d, 16), NONE);
        }
        int[] noW = {0, -1, 17, FAR, LOW};
        for (int w : noW) {
            check.due("shares(1, " + w + ")", x.shares(1, w), NONE);
            check.due("shares(20, " + w + ")", x.shares(20, w), NONE);
        }
        check.due("all is kept: made(200, 15)", x.made(200, 15), 5);
    }

    private static void numbers() {
        ReedSets x = sharing(2, 1);
        check.due("share(0, 0, 7)", x.share(0, 0, 7), 1);
        check.due("share(255, 0, 7 + 255)", x.share(255, 0, 7 ^ 255), 2);
        check.due("made(1, 0) of 7 + x", x.made(1, 0), 7 ^ 1);
        check.due("made(0, 0)", x.made(0, 0), 7);
        check.due("made(255, 0)", x.made(255, 0), 7 ^ 255);
        check.due("made(128, 0)", x.made(128, 0), 7 ^ 128);
        check.due("share(-1, 0, 1)", x.share(-1, 0, 1), NONE);
        check.due("share(256, 0, 1)", x.share(256, 0, 1), NONE);
        check.due("made(-1, 0)", x.made(-1, 0), NONE);
        check.due("made(256, 0)", x.made(256, 0), NONE);
    }

    /** x^d is the first that is too high: d told shares of it make another polynomial. */
    private static void degrees() {
        for (int d = 1; d <= 20; d++) {
            ReedSets x = sharing(d, 2);
            for (int s = 0; s <= d; s++) {
                x.share(s, 0, power(s, d - 1));
                x.share(s, 1, power(s, d));
            }
            check.due("d " + d + ": made(255, 0) of x^(d - 1)", x.made(255, 0), power(255, d - 1));
            check.due("d " + d + ": made(" + d + ", 0)", x.made(d, 0), power(d, d - 1));
            check.isTrue("d " + d + ": x^d is none of them", x.made(d, 1) != power(d, d));
            check.due("d " + d + ": apart()", x.apart(), 1);
        }
    }

    private static int power(int a, int e) {
        int value = 1;
        for (int i = 0; i < e; i++) {
            value = FieldTest.product(value, a);
        }
        return value;
    }

    private static void eachPlace() {
        ReedSets x = sharing(2, 16);
        for (int i = 0; i < 16; i++) {
            x.share(3, i, 16 * i);
            x.share(4, i, 16 * i);
        }
        for (int i = 0; i < 16; i++) {
            check.due("made(200, " + i + ")", x.made(200, i), 16 * i);
        }
        x.share(4, 15, 1);
        check.due("made(200, 14)", x.made(200, 14), 224);
        check.isTrue("made(200, 15) is another one", x.made(200, 15) != 240);
        check.due("made(4, 15)", x.made(4, 15), 1);
        check.due("made(200, 0)", x.made(200, 0), 0);
    }

    private static void anyTellAll() {
        int[] steps = {1, 3, 7, 12};
        for (int d = 1; d <= 20; d++) {
            for (int step : steps) {
                ReedSets low = sharing(d, 1);
                ReedSets high = sharing(d, 1);
                for (int j = 0; j < d; j++) {
                    low.share(step * j, 0, value(d, step * j));
                    high.share(255 - step * j, 0, value(d, 255 - step * j));
                }
                for (int s = 0; s < 256; s += 5) {
                    check.due("d " + d + ", from 0 by " + step + ": made(" + s + ", 0)", low.made(s, 0), value(d, s));
                    check.due("d " + d + ", from 255 by " + step + ": made(" + s + ", 0)", high.made(s, 0), value(d, s));
                }
            }
        }
    }

    // ---- promises 22 to 24

    private static void startsAnew() {
        ReedSets x = sharing(1, 16);
        for (int s = 0; s < 256; s++) {
            x.share(s, 15, 255);
        }
        check.due("shares(1, 16) again", x.shares(1, 16), 1);
        for (int s = 0; s < 200; s += 5) {
            check.due("drop(" + s + ")", x.drop(s), NONE);
        }
        check.due("made(0, 0)", x.made(0, 0), NONE);
        check.due("apart()", x.apart(), NONE);
        check.due("odd()", x.odd(), NONE);
        check.due("share(9, 0, 1)", x.share(9, 0, 1), 1);
        check.due("made(9, 15), as if it had never been told", x.made(9, 15), 0);
        check.due("shares(2, 1)", x.shares(2, 1), 1);
        check.due("share(9, 0, 1)", x.share(9, 0, 1), 1);
        check.due("d 2: made(9, 0)", x.made(9, 0), NONE);
        check.due("w 1: share(9, 1, 1)", x.share(9, 1, 1), NONE);
    }

    private static void noShares() {
        ReedSets x = sharing(2, 2);
        x.share(7, 1, 9);
        x.share(8, 1, 9);
        int[][] none = {
            {0, 1}, {21, 1}, {1, 0}, {1, 17}, {-1, 1}, {1, -1}, {0, 0}, {21, 17}, {FAR, 1}, {LOW, 1}, {1, FAR}, {1, LOW}
        };
        for (int[] s : none) {
            check.due("shares(" + s[0] + ", " + s[1] + ")", x.shares(s[0], s[1]), NONE);
        }
        check.due("made(0, 1)", x.made(0, 1), 9);
        check.due("made(0, 2), w 2 still", x.made(0, 2), NONE);
        check.due("drop(7), both are told still", x.drop(7), 1);
        check.due("made(0, 1), d 2 still", x.made(0, 1), NONE);
        check.due("share(1, 1, 1)", x.share(1, 1, 1), 2);
    }

    private static void tells() {
        ReedSets x = sharing(1, 16);
        check.due("share(0, 0, 255)", x.share(0, 0, 255), 1);
        check.due("share(0, 15, 1)", x.share(0, 15, 1), 1);
        check.due("made(0, 0)", x.made(0, 0), 255);
        check.due("made(0, 15)", x.made(0, 15), 1);
        check.due("share(0, 0, 0)", x.share(0, 0, 0), 1);
        check.due("made(0, 0)", x.made(0, 0), 0);
        check.due("made(0, 15) stays", x.made(0, 15), 1);
        x.drop(0);
        check.due("share(255, 15, 255)", x.share(255, 15, 255), 1);
        check.due("made(255, 15)", x.made(255, 15), 255);
        check.due("made(255, 14)", x.made(255, 14), 0);
    }

    private static void otherPlaces() {
        ReedSets x = sharing(1, 3);
        x.share(5, 1, 4);
        check.due("made(5, 0)", x.made(5, 0), 0);
        check.due("made(5, 1)", x.made(5, 1), 4);
        check.due("made(5, 2)", x.made(5, 2), 0);
        x.share(5, 0, 8);
        check.due("it was told: made(5, 1)", x.made(5, 1), 4);
        x.drop(5);
        x.share(5, 2, 9);
        check.due("it was told before: made(5, 0)", x.made(5, 0), 0);
        check.due("made(5, 1)", x.made(5, 1), 0);
        check.due("made(5, 2)", x.made(5, 2), 9);
        x.shares(1, 16);
        x.share(5, 15, 1);
        check.due("other SHARES: made(5, 2)", x.made(5, 2), 0);
        x.shares(1, 1);
        x.share(5, 0, 1);
        x.shares(1, 16);
        x.share(5, 0, 1);
        check.due("wider than before: made(5, 15)", x.made(5, 15), 0);
    }

    private static void howManyTold() {
        ReedSets x = sharing(20, 1);
        for (int s = 0; s < 256; s++) {
            check.due("share(" + s + ", 0, 1)", x.share(s, 0, 1), s + 1);
        }
        check.due("share(0, 0, 2), told before", x.share(0, 0, 2), 256);
        check.due("share(255, 0, 2), told before", x.share(255, 0, 2), 256);
        check.due("drop(100)", x.drop(100), 255);
        check.due("share(100, 0, 0)", x.share(100, 0, 0), 256);
    }

    private static void tellsNone() {
        ReedSets x = sharing(1, 2);
        x.share(7, 0, 3);
        int[] no = {-1, 256, FAR, LOW};
        for (int n : no) {
            check.due("share(" + n + ", 0, 9)", x.share(n, 0, 9), NONE);
            check.due("share(7, 0, " + n + ")", x.share(7, 0, n), NONE);
            check.due("share(6, 0, " + n + ")", x.share(6, 0, n), NONE);
        }
        int[] noPlaces = {-1, 2, 15, 16, FAR, LOW};
        for (int i : noPlaces) {
            check.due("share(7, " + i + ", 9)", x.share(7, i, 9), NONE);
            check.due("share(6, " + i + ", 9)", x.share(6, i, 9), NONE);
        }
        check.due("made(7, 0)", x.made(7, 0), 3);
        check.due("made(7, 1)", x.made(7, 1), 0);
        check.due("drop(6), it was not told", x.drop(6), NONE);
        check.due("share(8, 1, 9), one was told", x.share(8, 1, 9), 2);
    }

    private static void drops() {
        ReedSets x = sharing(1, 1);
        for (int s = 0; s < 256; s++) {
            x.share(s, 0, s);
        }
        for (int s = 0; s < 250; s++) {
            check.due("drop(" + s + ")", x.drop(s), 255 - s);
        }
        check.due("made(0, 0) by 250", x.made(0, 0), 250);
        ReedSets y = sharing(1, 1);
        y.share(0, 0, 1);
        y.share(255, 0, 2);
        check.due("drop(255)", y.drop(255), 1);
        check.due("drop(0)", y.drop(0), 0);
        check.due("made(0, 0), none told", y.made(0, 0), NONE);
        check.due("share(0, 0, 4)", y.share(0, 0, 4), 1);
    }

    private static void dropsNone() {
        ReedSets x = sharing(1, 1);
        check.due("none told: drop(0)", x.drop(0), NONE);
        x.share(1, 0, 5);
        x.share(254, 0, 5);
        int[] none = {-1, 0, 2, 253, 255, 256, FAR, LOW};
        for (int s : none) {
            check.due("drop(" + s + ")", x.drop(s), NONE);
        }
        check.due("drop(1), two were told", x.drop(1), 1);
        check.due("drop(1) again", x.drop(1), NONE);
        check.due("drop(254)", x.drop(254), 0);
        check.due("drop(254) again", x.drop(254), NONE);
        check.due("share(1, 0, 5)", x.share(1, 0, 5), 1);
    }

    // ---- promises 25 to 27

    private static void makes() {
        ReedSets x = sharing(1, 1);
        x.share(255, 0, 9);
        check.due("255 alone: made(0, 0)", x.made(0, 0), 9);
        x.share(254, 0, 8);
        check.due("254 is less: made(255, 0)", x.made(255, 0), 8);
        x.share(0, 0, 7);
        check.due("0 is the least: made(255, 0)", x.made(255, 0), 7);
        x.drop(0);
        check.due("254 again: made(0, 0)", x.made(0, 0), 8);
        ReedSets y = sharing(20, 1);
        tell(y, 20, 236, 256);
        check.due("20 told: made(0, 0)", y.made(0, 0), value(20, 0));
        for (int s = 236; s < 256; s++) {
            check.due("made(" + s + ", 0), as told", y.made(s, 0), value(20, s));
        }
        y.share(235, 0, value(20, 235) ^ 1);
        check.due("235 is among the least: made(235, 0)", y.made(235, 0), value(20, 235) ^ 1);
        check.isTrue("made(255, 0) is not as told", y.made(255, 0) != value(20, 255));
        y.drop(236);
        check.due("255 is among the least again: made(255, 0)", y.made(255, 0), value(20, 255));
    }

    private static void makesNone() {
        ReedSets x = sharing(1, 2);
        x.share(3, 0, 4);
        x.share(3, 1, 5);
        int[] noShares = {-1, 256, FAR, LOW};
        for (int s : noShares) {
            check.due("made(" + s + ", 0)", x.made(s, 0), NONE);
        }
        int[] noPlaces = {-1, 2, 15, 16, FAR, LOW};
        for (int i : noPlaces) {
            check.due("made(3, " + i + ")", x.made(3, i), NONE);
        }
        check.due("made(256, 2)", x.made(256, 2), NONE);
        check.due("made(0, 0)", x.made(0, 0), 4);
        check.due("made(255, 1)", x.made(255, 1), 5);
        check.due("drop(3), none other was told", x.drop(3), 0);
    }

    private static void makesTooEarly() {
        for (int d = 1; d <= 20; d++) {
            ReedSets x = sharing(d, 1);
            tell(x, d, 0, d - 1);
            check.due("d " + d + ", one too few: made(0, 0)", x.made(0, 0), NONE);
            check.due("d " + d + ", one too few: made(255, 0)", x.made(255, 0), NONE);
            tell(x, d, 255, 256);
            check.due("d " + d + ", just d: made(200, 0)", x.made(200, 0), value(d, 200));
            x.drop(255);
            check.due("d " + d + ", one too few again: made(200, 0)", x.made(200, 0), NONE);
        }
    }

    private static void countsApart() {
        ReedSets x = sharing(1, 1);
        for (int s = 0; s < 256; s++) {
            x.share(s, 0, s == 0 ? 1 : 0);
        }
        check.due("d 1, all but the least: apart()", x.apart(), 255);
        x.share(0, 0, 0);
        check.due("d 1, none: apart()", x.apart(), 0);
        x.share(255, 0, 1);
        check.due("d 1, the last: apart()", x.apart(), 1);
        ReedSets y = sharing(20, 16);
        for (int s = 0; s < 256; s++) {
            y.share(s, 15, s < 20 ? 0 : 1);
        }
        check.due("d 20, by the last place: apart()", y.apart(), 236);
        y.share(255, 15, 0);
        check.due("255 is as made() tells: apart()", y.apart(), 235);
        y.share(255, 0, 9);
        check.due("by the first place: apart()", y.apart(), 236);
        y.share(255, 15, 9);
        check.due("by two places, one SHARE: apart()", y.apart(), 236);
        ReedSets z = sharing(20, 1);
        tell(z, 20, 0, 20);
        check.due("just d: apart()", z.apart(), 0);
        z.share(20, 0, value(20, 20) ^ 255);
        check.due("one more: apart()", z.apart(), 1);
    }

    private static void apartTooEarly() {
        for (int d = 1; d <= 20; d++) {
            ReedSets x = sharing(d, 1);
            check.due("d " + d + ", none: apart()", x.apart(), NONE);
            tell(x, d, 0, d - 1);
            check.due("d " + d + ", one too few: apart()", x.apart(), NONE);
            tell(x, d, 255, 256);
            check.due("d " + d + ", just d: apart()", x.apart(), 0);
            x.drop(255);
            check.due("d " + d + ", one too few again: apart()", x.apart(), NONE);
        }
    }

    private static void leastOdd() {
        int[] needed = {1, 2, 3, 19, 20};
        for (int d : needed) {
            int[] odd = {0, 1, d - 1, d, d + 1};
            for (int s : odd) {
                ReedSets x = sharing(d, 1);
                tell(x, d, 0, d + 2);
                x.share(s, 0, value(d, s) ^ 1);
                check.due("d " + d + ", " + s + " of the least d + 2: odd()", x.odd(), s);
                ReedSets y = sharing(d, 1);
                tell(y, d, 254 - d, 256);
                y.share(254 - d + s, 0, value(d, 254 - d + s) ^ 128);
                check.due("d " + d + ", " + s + " of the greatest d + 2: odd()", y.odd(), 254 - d + s);
            }
        }
        ReedSets all = sharing(20, 1);
        tell(all, 20, 0, 256);
        int[] odd = {0, 19, 20, 255};
        for (int s : odd) {
            all.share(s, 0, value(20, s) ^ 1);
            check.due("256 told, " + s + ": odd()", all.odd(), s);
            all.share(s, 0, value(20, s));
        }
        ReedSets wide = sharing(2, 16);
        for (int s = 10; s < 14; s++) {
            wide.share(s, 0, 5);
        }
        wide.share(12, 15, 1);
        check.due("by the last place alone: odd()", wide.odd(), 12);
        wide.share(12, 0, 9);
        check.due("by two places: odd()", wide.odd(), 12);
    }

    /** Of d + 1 any one leaves d, and d always agree; so it is the least that is told. */
    private static void enoughLeft() {
        for (int d = 1; d <= 20; d++) {
            ReedSets x = sharing(d, 1);
            tell(x, d, 100, 100 + d);
            check.due("d " + d + ", just d: odd()", x.odd(), 256);
            x.share(255, 0, value(d, 255) ^ 1);
            check.due("d " + d + ", d + 1 that do not agree: odd()", x.odd(), 100);
            x.share(100 + d, 0, value(d, 100 + d));
            check.due("d " + d + ", d + 2: odd()", x.odd(), 255);
            x.drop(100);
            check.due("d " + d + ", d + 1 again: odd()", x.odd(), 101);
            x.drop(255);
            check.due("d " + d + ", just d again: odd()", x.odd(), 256);
        }
    }

    private static void noneOdd() {
        for (int d = 1; d <= 20; d++) {
            ReedSets x = sharing(d, 1);
            tell(x, d, 0, d);
            check.due("d " + d + ", just d: odd()", x.odd(), 256);
            tell(x, d, d, d + 1);
            check.due("d " + d + ", d + 1: odd()", x.odd(), 256);
            tell(x, d, 253, 256);
            check.due("d " + d + ", d + 4: odd()", x.odd(), 256);
        }
        ReedSets all = sharing(1, 1);
        tell(all, 1, 0, 256);
        check.due("256 told: odd()", all.odd(), 256);
    }

    private static void tooManyOdd() {
        for (int d = 1; d <= 20; d++) {
            ReedSets x = sharing(d, 1);
            tell(x, d, 0, d + 3);
            x.share(0, 0, value(d, 0) ^ 1);
            x.share(d + 2, 0, value(d, d + 2) ^ 2);
            check.due("d " + d + ", the first and the last: odd()", x.odd(), NONE);
            x.share(0, 0, value(d, 0));
            x.share(d + 1, 0, value(d, d + 1) ^ 4);
            check.due("d " + d + ", the last two: odd()", x.odd(), NONE);
            x.share(d + 2, 0, value(d, d + 2));
            check.due("d " + d + ", one of them: odd()", x.odd(), d + 1);
        }
        ReedSets y = sharing(1, 2);
        y.share(1, 0, 5);
        y.share(2, 1, 5);
        y.share(3, 0, 5);
        y.share(3, 1, 5);
        check.due("three kinds: odd()", y.odd(), NONE);
        y.share(4, 0, 5);
        check.due("two of one kind, two others: odd()", y.odd(), NONE);
        y.drop(2);
        check.due("two of one kind, one other: odd()", y.odd(), 3);
    }

    private static void oddTooEarly() {
        for (int d = 1; d <= 20; d++) {
            ReedSets x = sharing(d, 1);
            check.due("d " + d + ", none: odd()", x.odd(), NONE);
            tell(x, d, 0, d - 1);
            check.due("d " + d + ", one too few: odd()", x.odd(), NONE);
            tell(x, d, 255, 256);
            check.due("d " + d + ", just d: odd()", x.odd(), 256);
            x.drop(255);
            check.due("d " + d + ", one too few again: odd()", x.odd(), NONE);
        }
    }
}
