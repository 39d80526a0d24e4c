import java.util.ArrayList;
import java.util.List;
import java.util.function.Consumer;
import java.util.function.ToIntFunction;

/**
 * A refused call changes nothing, nor does one that only asks: two objects get the same calls, one of them the call in
 * question, too; then all that can be asked of them must be answered alike. What they are asked may change them (a repair,
 * a wipe), so that each way of asking has a pair of its own.
 */
public final class RefusalsTest {
    private static final Check check = new Check();
    private static final int NONE = ReedSets.NONE;
    private static final int FAR = Integer.MAX_VALUE;
    private static final int LOW = Integer.MIN_VALUE;
    private static final int MOST_ASKED = 250;

    private record State(String name, Consumer<ReedSets> calls) { }

    private record Call(String name, ToIntFunction<ReedSets> call) { }

    /** Asks an object and keeps the answers, MOST_ASKED at most: a state may need 260 calls, and 512 are free. */
    private interface Look {
        void at(ReedSets x, List<Integer> answers);
    }

    private static final State NEW = new State("new", x -> { });
    private static final State SMALL = new State("small", RefusalsTest::makeSmall);
    private static final State FULL_WORD = new State("full word", RefusalsTest::makeFullWord);
    private static final State FULL_BLOCK = new State("full block", RefusalsTest::makeFullBlock);
    private static final State FULL_SHARES = new State("full shares", RefusalsTest::makeFullShares);
    private static final State[] ALL = {NEW, SMALL, FULL_WORD, FULL_BLOCK, FULL_SHARES};

    private static final Look[] LOOKS = {
        RefusalsTest::lookAtWord, RefusalsTest::lookAtLost, RefusalsTest::lookAtRepair, RefusalsTest::lookAtEncoded,
        RefusalsTest::lookAtSent, RefusalsTest::lookAtMended, RefusalsTest::lookAtBlock, RefusalsTest::lookAtMade,
        RefusalsTest::lookAtTold
    };

    public static void main(String[] args) {
        check.sentence("2 to 5: NONE", RefusalsTest::field);
        check.sentence("6: NONE: it is none", RefusalsTest::codes);
        check.sentence("8: NONE: no such place, no BYTE", RefusalsTest::puts);
        check.sentence("9: NONE: a DATA place is LOST", RefusalsTest::encodes);
        check.sentence("11: NONE: no such place, or it is so", RefusalsTest::losses);
        check.sentence("13: NONE: it cannot be", RefusalsTest::repairs);
        check.sentence("15: NONE: another number; more than 800", RefusalsTest::blocks);
        check.sentence("17: NONE: another s, no BYTES, more than 200 DATA", RefusalsTest::lays);
        check.sentence("19: NONE: none such", RefusalsTest::damages);
        check.sentence("20: NONE: not laid", RefusalsTest::mends);
        check.sentence("22: NONE", RefusalsTest::shares);
        check.sentence("23: NONE", RefusalsTest::tellings);
        check.sentence("24: NONE: it is not", RefusalsTest::drops);
        check.sentence("7, 10, 12, 14, 18, 21, 25, 26, 27: those that ask", RefusalsTest::questions);
        check.end();
    }

    // ---- the states

    /** A bit of all: a repair that was done, a word with a fault too many, a damaged block, shares that do not agree. */
    private static void makeSmall(ReedSets x) {
        x.code(5, 3, 250);
        for (int i = 0; i < 5; i++) {
            x.put(i, 40 * i + 3);
        }
        x.encode();
        x.put(2, 1);
        x.lose(7);
        x.put(7, 99);
        x.repair();
        x.put(0, 200);
        x.put(3, 100);
        x.lose(4);
        x.lose(6);
        x.block(9, 8, 7, 6);
        x.block(5, 4, 3, NONE);
        x.lay(3);
        x.damage(0, 4, 77);
        x.damage(9, 3, NONE);
        x.shares(2, 3);
        for (int s = 0; s < 5; s++) {
            x.share(50 * s + 3, s % 3, 31 * s);
        }
    }

    private static void makeFullWord(ReedSets x) {
        x.code(200, 40, 254);
        for (int i = 0; i < 240; i += 6) {
            x.put(i, 255 - i);
        }
        x.put(239, 1);
        for (int i = 0; i < 240; i += 4) {
            x.lose(i);
        }
    }

    private static void makeFullBlock(ReedSets x) {
        x.code(1, 40, 7);
        for (int i = 0; i < 200; i++) {
            x.block(i, i ^ 170, 255 - i, i * i & 255);
        }
        x.lay(5);
        x.damage(10, 100, 5);
        x.damage(890, 100, NONE);
    }

    private static void makeFullShares(ReedSets x) {
        x.shares(20, 16);
        for (int s = 0; s < 256; s++) {
            x.share(s, s % 16, 255 - s);
        }
    }

    // ---- the looks

    private static void lookAtWord(ReedSets x, List<Integer> answers) {
        for (int i = 0; i <= 240; i += i < 20 ? 1 : 2) {
            answers.add(x.at(i));
        }
        for (int i = 0; i <= 40; i += 3) {
            answers.add(x.generator(i));
            answers.add(x.syndrome(i));
        }
        lookAtChanges(x, answers);
    }

    private static void lookAtChanges(ReedSets x, List<Integer> answers) {
        for (int j = 0; j <= 3; j++) {
            answers.add(x.changed(j, 0));
            answers.add(x.changed(j, 1));
        }
    }

    private static void lookAtLost(ReedSets x, List<Integer> answers) {
        for (int i = 0; i <= 240; i++) {
            answers.add(x.lose(i));
        }
    }

    private static void lookAtRepair(ReedSets x, List<Integer> answers) {
        answers.add(x.lose(0));
        answers.add(x.repair());
        lookAtChanges(x, answers);
        for (int i = 0; i <= 10; i++) {
            answers.add(x.at(i));
        }
        answers.add(x.code(5, 3, 1));
        answers.add(x.repair());
        lookAtChanges(x, answers);
    }

    private static void lookAtEncoded(ReedSets x, List<Integer> answers) {
        answers.add(x.encode());
        for (int i = 0; i <= 240; i++) {
            answers.add(x.at(i));
        }
    }

    private static void lookAtSent(ReedSets x, List<Integer> answers) {
        answers.add(x.wrong());
        for (int i = 0; i < 20; i++) {
            answers.add(x.sent(i));
        }
        for (int i = 20; i < 1440; i += 7) {
            answers.add(x.sent(i));
        }
    }

    private static void lookAtMended(ReedSets x, List<Integer> answers) {
        answers.add(x.mend());
        lookAtSent(x, answers);
    }

    private static void lookAtBlock(ReedSets x, List<Integer> answers) {
        answers.add(x.lay(1));
        answers.add(x.lay(4));
        lookAtSent(x, answers);
        answers.add(x.wipe());
        answers.add(x.wipe());
    }

    private static void lookAtMade(ReedSets x, List<Integer> answers) {
        answers.add(x.apart());
        answers.add(x.odd());
        for (int s = 0; s < 256; s += 51) {
            for (int i = 0; i <= 16; i++) {
                answers.add(x.made(s, i));
            }
        }
    }

    private static void lookAtTold(ReedSets x, List<Integer> answers) {
        for (int s = 255; s >= 20; s--) {
            answers.add(x.drop(s));
        }
        answers.add(x.made(100, 0));
        answers.add(x.share(100, 0, 5));
    }

    // ---- the comparison

    private static void refused(State state, String name, ToIntFunction<ReedSets> call) {
        ReedSets x = new ReedSets();
        state.calls().accept(x);
        check.due(state.name() + ", " + name, call.applyAsInt(x), NONE);
        changesNothing(state, new Call(name, call));
    }

    private static void changesNothing(State state, Call call) {
        for (int look = 0; look < LOOKS.length; look++) {
            List<Integer> due = new ArrayList<>();
            List<Integer> got = new ArrayList<>();
            ReedSets without = new ReedSets();
            state.calls().accept(without);
            LOOKS[look].at(without, due);
            ReedSets with = new ReedSets();
            state.calls().accept(with);
            call.call().applyAsInt(with);
            LOOKS[look].at(with, got);
            String name = state.name() + ", " + call.name() + ", look " + look;
            check.isTrue(name + ", not too many answers", due.size() <= MOST_ASKED);
            for (int i = 0; i < due.size(); i++) {
                check.due(name + ", answer " + i, got.get(i), due.get(i));
            }
        }
    }

    // ---- the calls

    private static void field() {
        refused(SMALL, "times(256, 1)", x -> x.times(256, 1));
        refused(SMALL, "times(1, -1)", x -> x.times(1, -1));
        refused(SMALL, "over(1, 0)", x -> x.over(1, 0));
        refused(SMALL, "over(256, 1)", x -> x.over(256, 1));
        refused(SMALL, "power(0, -1)", x -> x.power(0, -1));
        refused(SMALL, "power(256, 0)", x -> x.power(256, 0));
        refused(SMALL, "log(0)", x -> x.log(0));
        refused(SMALL, "log(256)", x -> x.log(256));
    }

    private static void codes() {
        int[][] none = {
            {0, 1, 0}, {201, 1, 0}, {1, -1, 0}, {1, 41, 0}, {1, 1, -1}, {1, 1, 255}, {FAR, FAR, FAR}, {LOW, LOW, LOW},
            {216, 40, 0}
        };
        for (State state : ALL) {
            for (int[] c : none) {
                refused(state, "code(" + c[0] + ", " + c[1] + ", " + c[2] + ")", x -> x.code(c[0], c[1], c[2]));
            }
        }
    }

    private static void puts() {
        refused(NEW, "put(1, 5)", x -> x.put(1, 5));
        refused(SMALL, "put(8, 5)", x -> x.put(8, 5));
        refused(FULL_WORD, "put(240, 5)", x -> x.put(240, 5));
        for (State state : ALL) {
            refused(state, "put(-1, 5)", x -> x.put(-1, 5));
            refused(state, "put(FAR, 5)", x -> x.put(FAR, 5));
            refused(state, "put(0, 256)", x -> x.put(0, 256));
            refused(state, "put(0, -1)", x -> x.put(0, -1));
        }
    }

    private static void encodes() {
        refused(SMALL, "encode()", ReedSets::encode);
        refused(FULL_WORD, "encode()", ReedSets::encode);
        State all = new State("all lost, k 0", x -> {
            x.code(1, 0, 0);
            x.put(0, 8);
            x.lose(0);
        });
        refused(all, "encode()", ReedSets::encode);
    }

    private static void losses() {
        refused(NEW, "lose(1)", x -> x.lose(1));
        refused(SMALL, "lose(8)", x -> x.lose(8));
        refused(SMALL, "lose(4)", x -> x.lose(4));
        refused(SMALL, "lose(6)", x -> x.lose(6));
        refused(FULL_WORD, "lose(240)", x -> x.lose(240));
        refused(FULL_WORD, "lose(0)", x -> x.lose(0));
        refused(FULL_WORD, "lose(236)", x -> x.lose(236));
        for (State state : ALL) {
            refused(state, "lose(-1)", x -> x.lose(-1));
            refused(state, "lose(LOW)", x -> x.lose(LOW));
        }
    }

    private static void repairs() {
        refused(SMALL, "repair()", ReedSets::repair);
        refused(FULL_WORD, "repair()", ReedSets::repair);
        State all = new State("lost, k 0", x -> {
            x.put(0, 8);
            x.lose(0);
        });
        refused(all, "repair()", ReedSets::repair);
        State errors = new State("20 errors and one lost", x -> {
            x.code(200, 40, 0);
            for (int i = 0; i < 20; i++) {
                x.put(11 * i, i + 1);
            }
            x.put(230, 9);
            x.lose(230);
        });
        refused(errors, "repair()", ReedSets::repair);
    }

    private static void blocks() {
        int[] others = {-2, 256, FAR, LOW};
        for (int no : others) {
            for (State state : ALL) {
                refused(state, "block(" + no + ", 1, 2, 3)", x -> x.block(no, 1, 2, 3));
                refused(state, "block(1, 2, 3, " + no + ")", x -> x.block(1, 2, 3, no));
            }
            refused(SMALL, "block(1, " + no + ", 2, 3)", x -> x.block(1, no, 2, 3));
            refused(SMALL, "block(1, 2, " + no + ", 3)", x -> x.block(1, 2, no, 3));
            refused(SMALL, "block(NONE, NONE, NONE, " + no + ")", x -> x.block(NONE, NONE, NONE, no));
        }
        refused(FULL_BLOCK, "block(1, NONE, NONE, NONE)", x -> x.block(1, NONE, NONE, NONE));
        refused(FULL_BLOCK, "block(1, 2, 3, 4)", x -> x.block(1, 2, 3, 4));
        State one = new State("799 bytes", x -> {
            for (int i = 0; i < 200; i++) {
                x.block(i, 3, 2, i == 199 ? NONE : 1);
            }
        });
        refused(one, "block(1, 2, NONE, NONE)", x -> x.block(1, 2, NONE, NONE));
        refused(one, "block(NONE, 1, 2, 3)", x -> x.block(NONE, 1, 2, 3));
    }

    private static void lays() {
        int[] others = {0, -1, 17, FAR, LOW};
        for (State state : ALL) {
            for (int s : others) {
                refused(state, "lay(" + s + ")", x -> x.lay(s));
            }
        }
        refused(NEW, "lay(1)", x -> x.lay(1));
        refused(SMALL, "lay(8)", x -> x.lay(8));
        refused(FULL_BLOCK, "lay(1)", x -> x.lay(1));
        refused(FULL_BLOCK, "lay(3)", x -> x.lay(3));
    }

    private static void damages() {
        int[][] none = {
            {-1, 1, 1}, {0, 0, 1}, {0, 101, 1}, {0, -1, 1}, {0, 1, 256}, {0, 1, -2}, {FAR, 1, 1}, {LOW, 1, 1}, {0, FAR, 1},
            {FAR, FAR, NONE}, {-1, 2, NONE}, {1000, 1, 1}
        };
        for (State state : ALL) {
            for (int[] d : none) {
                refused(state, "damage(" + d[0] + ", " + d[1] + ", " + d[2] + ")", x -> x.damage(d[0], d[1], d[2]));
            }
        }
        refused(NEW, "damage(0, 1, 1)", x -> x.damage(0, 1, 1));
        refused(SMALL, "damage(16, 1, 1)", x -> x.damage(16, 1, 1));
        refused(SMALL, "damage(15, 2, 1)", x -> x.damage(15, 2, 1));
        refused(SMALL, "damage(0, 17, NONE)", x -> x.damage(0, 17, NONE));
        refused(FULL_BLOCK, "damage(901, 100, 1)", x -> x.damage(901, 100, 1));
        refused(FULL_BLOCK, "damage(999, 2, NONE)", x -> x.damage(999, 2, NONE));
    }

    private static void mends() {
        refused(NEW, "mend()", ReedSets::mend);
        refused(FULL_SHARES, "mend()", ReedSets::mend);
        State notLaid = new State("not laid", x -> x.block(1, 2, 3, 4));
        refused(notLaid, "mend()", ReedSets::mend);
        State tooMuch = new State("the first stripe cannot be", x -> {
            x.code(3, 2, 0);
            x.block(1, 2, 3, 4);
            x.lay(2);
            x.damage(0, 4, 1);
        });
        ReedSets y = new ReedSets();
        tooMuch.calls().accept(y);
        check.due("two errors in each stripe, mend()", y.mend(), -2);
        changesNothing(tooMuch, new Call("mend()", ReedSets::mend));
    }

    private static void shares() {
        int[][] none = {{0, 1}, {21, 1}, {1, 0}, {1, 17}, {-1, 1}, {1, -1}, {FAR, 1}, {1, LOW}};
        for (State state : ALL) {
            for (int[] s : none) {
                refused(state, "shares(" + s[0] + ", " + s[1] + ")", x -> x.shares(s[0], s[1]));
            }
        }
    }

    private static void tellings() {
        int[][] none = {
            {-1, 0, 1}, {256, 0, 1}, {100, -1, 1}, {100, 16, 1}, {100, 0, -1}, {100, 0, 256}, {FAR, 0, 1}, {100, LOW, 1},
            {100, 0, FAR}
        };
        for (State state : ALL) {
            for (int[] s : none) {
                refused(state, "share(" + s[0] + ", " + s[1] + ", " + s[2] + ")", x -> x.share(s[0], s[1], s[2]));
            }
        }
        refused(NEW, "share(100, 1, 1)", x -> x.share(100, 1, 1));
        refused(SMALL, "share(100, 3, 1)", x -> x.share(100, 3, 1));
        refused(SMALL, "share(3, 3, 1)", x -> x.share(3, 3, 1));
    }

    private static void drops() {
        for (State state : ALL) {
            refused(state, "drop(-1)", x -> x.drop(-1));
            refused(state, "drop(256)", x -> x.drop(256));
            refused(state, "drop(LOW)", x -> x.drop(LOW));
        }
        refused(NEW, "drop(0)", x -> x.drop(0));
        refused(SMALL, "drop(4)", x -> x.drop(4));
        State dropped = new State("dropped", x -> {
            x.share(7, 0, 1);
            x.share(8, 0, 1);
            x.drop(7);
        });
        refused(dropped, "drop(7)", x -> x.drop(7));
    }

    private static void questions() {
        List<Call> calls = new ArrayList<>();
        int[] some = {-1, 0, 1, 3, 7, 40, 255, 256, 999, FAR, LOW};
        for (int i : some) {
            calls.add(new Call("generator(" + i + ")", x -> x.generator(i)));
            calls.add(new Call("at(" + i + ")", x -> x.at(i)));
            calls.add(new Call("syndrome(" + i + ")", x -> x.syndrome(i)));
            calls.add(new Call("changed(" + i + ", 0)", x -> x.changed(i, 0)));
            calls.add(new Call("changed(0, " + i + ")", x -> x.changed(0, i)));
            calls.add(new Call("sent(" + i + ")", x -> x.sent(i)));
            calls.add(new Call("made(" + i + ", 0)", x -> x.made(i, 0)));
            calls.add(new Call("made(0, " + i + ")", x -> x.made(0, i)));
        }
        calls.add(new Call("wrong()", ReedSets::wrong));
        calls.add(new Call("apart()", ReedSets::apart));
        calls.add(new Call("odd()", ReedSets::odd));
        for (State state : new State[] {SMALL, FULL_BLOCK}) {
            for (Call call : calls) {
                changesNothing(state, call);
            }
        }
    }
}
