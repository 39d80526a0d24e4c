import java.util.Random;

/** An object is used for at most 512 calls: the last of them is answered as due, and none behind it throws. */
public final class ManyCallsTest {
    private static final Check check = new Check();
    private static final int NONE = ReedSets.NONE;
    private static final int MOST_CALLS = 512;

    public static void main(String[] args) {
        check.sentence("at most 512 calls: field", ManyCallsTest::field);
        check.sentence("at most 512 calls: a word", ManyCallsTest::words);
        check.sentence("at most 512 calls: a block", ManyCallsTest::blocks);
        check.sentence("at most 512 calls: shares", ManyCallsTest::shares);
        check.sentence("at most 512 calls: refused ones", ManyCallsTest::refused);
        check.sentence("what later calls answer is free", ManyCallsTest::later);
        check.end();
    }

    private static void field() {
        ReedSets x = new ReedSets();
        for (int call = 1; call <= MOST_CALLS; call++) {
            check.due("call " + call + ": times(128, 2)", x.times(128, 2), 29);
        }
    }

    /** One call, then rounds of seven: 73 rounds are 512 calls. */
    private static void words() {
        ReedSets x = new ReedSets();
        check.due("code(4, 2, 0)", x.code(4, 2, 0), 6);
        for (int round = 0; round < 73; round++) {
            int place = round % 4;
            check.due("round " + round + ": put()", x.put(place, round), 0);
            check.due("round " + round + ": repair()", x.repair(), round == 0 ? 0 : 1);
            check.due("round " + round + ": changed(0, 0)", x.changed(0, 0), round == 0 ? NONE : place);
            check.due("round " + round + ": changed(0, 1)", x.changed(0, 1), round == 0 ? NONE : round);
            check.due("round " + round + ": lose()", x.lose(place), 1);
            check.due("round " + round + ": repair() of a lost one", x.repair(), 0);
            check.due("round " + round + ": at()", x.at(place), 0);
        }
    }

    /** Two calls, then 102 rounds of five. */
    private static void blocks() {
        ReedSets x = new ReedSets();
        check.due("code(1, 2, 9)", x.code(1, 2, 9), 3);
        check.due("wipe()", x.wipe(), 0);
        for (int round = 0; round < 102; round++) {
            int s = 1 + round % 16;
            int m = 4 * (round + 1);
            boolean isSound = s <= m && (m + s - 1) / s <= 200;
            check.due("round " + round + ": block()", x.block(1, 2, 3, round), m);
            check.due("round " + round + ": lay(" + s + ")", x.lay(s), isSound ? m + 2 * s : NONE);
            check.due("round " + round + ": damage()", x.damage(m - 1, 1, 255), isSound ? 1 : NONE);
            check.due("round " + round + ": mend()", x.mend(), isSound ? 1 : NONE);
            check.due("round " + round + ": sent()", x.sent(m - 1), isSound ? round : NONE);
        }
    }

    /** Two calls, then 170 rounds of three; with the numbers going round. */
    private static void shares() {
        ReedSets x = new ReedSets();
        check.due("shares(2, 1)", x.shares(2, 1), 1);
        check.due("share(0, 0, 9)", x.share(0, 0, 9), 1);
        for (int round = 0; round < 170; round++) {
            int s = 1 + round * 3 % 255;
            check.due("round " + round + ": share()", x.share(s, 0, 9), 2);
            check.due("round " + round + ": odd()", x.odd(), 256);
            check.due("round " + round + ": drop()", x.drop(s), 1);
        }
    }

    private static void refused() {
        ReedSets x = new ReedSets();
        for (int call = 1; call < MOST_CALLS; call++) {
            check.due("call " + call + ": lose(1)", x.lose(1), NONE);
        }
        check.due("call 512: lose(0)", x.lose(0), 1);
    }

    /** LANGUAGE.md, rule 7: no call may ever throw. A throw ends the test, and so fails it. */
    private static void later() {
        Random random = new Random(512);
        ReedSets x = new ReedSets();
        for (int call = 0; call < 200000; call++) {
            any(x, random);
        }
        check.isTrue("none has thrown", true);
    }

    private static int number(Random random) {
        return switch (random.nextInt(8)) {
            case 0 -> random.nextInt();
            case 1 -> random.nextInt(1500) - 10;
            case 2, 3 -> random.nextInt(300) - 10;
            default -> random.nextInt(45) - 2;
        };
    }

    private static int any(ReedSets x, Random random) {
        int a = number(random);
        int b = number(random);
        int c = number(random);
        return switch (random.nextInt(26)) {
            case 0 -> x.times(a, b);
            case 1 -> x.over(a, b);
            case 2 -> x.power(a, b);
            case 3 -> x.log(a);
            case 4 -> random.nextInt(20) == 0 ? x.code(a, b, c) : NONE;
            case 5 -> x.generator(a);
            case 6 -> x.put(a, b);
            case 7 -> x.encode();
            case 8 -> x.at(a);
            case 9 -> x.lose(a);
            case 10 -> x.syndrome(a);
            case 11 -> x.repair();
            case 12 -> x.changed(a, b & 3);
            case 13 -> x.block(a, b, c, NONE);
            case 14 -> random.nextInt(20) == 0 ? x.wipe() : NONE;
            case 15 -> x.lay(a);
            case 16 -> x.sent(a);
            case 17 -> x.damage(a, b, c);
            case 18 -> x.mend();
            case 19 -> x.wrong();
            case 20 -> random.nextInt(20) == 0 ? x.shares(a, b) : NONE;
            case 21 -> x.share(a, b, c);
            case 22 -> x.drop(a);
            case 23 -> x.made(a, b);
            case 24 -> x.apart();
            default -> x.odd();
        };
    }
}
