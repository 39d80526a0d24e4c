/** A program and the model of it, called together; a new pair is due after 512 calls. */
final class Pair {
    static final int MOST_CALLS = 512;

    private final Check check;
    private final String name;
    private final ReedSets x = new ReedSets();
    private final Model model = new Model();
    private int calls = 0;

    Pair(Check check, String name) {
        this.check = check;
        this.name = name;
    }

    int callsLeft() {
        return MOST_CALLS - calls;
    }

    private int both(String call, int got, int want) {
        calls++;
        if (calls > MOST_CALLS) {
            throw new IllegalStateException("a test calls one object too often");
        }
        check.due(name + ", call " + calls + ": " + call, got, want);
        return want;
    }

    private static String text(String call, int... arguments) {
        StringBuilder all = new StringBuilder(call).append('(');
        for (int i = 0; i < arguments.length; i++) {
            all.append(i == 0 ? "" : ", ").append(arguments[i]);
        }
        return all.append(')').toString();
    }

    int code(int n, int k, int b) {
        return both(text("code", n, k, b), x.code(n, k, b), model.code(n, k, b));
    }

    int generator(int i) {
        return both(text("generator", i), x.generator(i), model.generator(i));
    }

    int put(int i, int v) {
        return both(text("put", i, v), x.put(i, v), model.put(i, v));
    }

    int encode() {
        return both("encode()", x.encode(), model.encode());
    }

    int at(int i) {
        return both(text("at", i), x.at(i), model.at(i));
    }

    int lose(int i) {
        return both(text("lose", i), x.lose(i), model.lose(i));
    }

    int syndrome(int i) {
        return both(text("syndrome", i), x.syndrome(i), model.syndrome(i));
    }

    int repair() {
        return both("repair()", x.repair(), model.repair());
    }

    int changed(int j, int what) {
        return both(text("changed", j, what), x.changed(j, what), model.changed(j, what));
    }

    int block(int a, int b, int c, int d) {
        return both(text("block", a, b, c, d), x.block(a, b, c, d), model.block(a, b, c, d));
    }

    int wipe() {
        return both("wipe()", x.wipe(), model.wipe());
    }

    int lay(int s) {
        return both(text("lay", s), x.lay(s), model.lay(s));
    }

    int sent(int i) {
        return both(text("sent", i), x.sent(i), model.sent(i));
    }

    int damage(int i, int many, int v) {
        return both(text("damage", i, many, v), x.damage(i, many, v), model.damage(i, many, v));
    }

    int mend() {
        return both("mend()", x.mend(), model.mend());
    }

    int wrong() {
        return both("wrong()", x.wrong(), model.wrong());
    }

    int shares(int d, int w) {
        return both(text("shares", d, w), x.shares(d, w), model.shares(d, w));
    }

    int share(int s, int i, int v) {
        return both(text("share", s, i, v), x.share(s, i, v), model.share(s, i, v));
    }

    int drop(int s) {
        return both(text("drop", s), x.drop(s), model.drop(s));
    }

    int made(int s, int i) {
        return both(text("made", s, i), x.made(s, i), model.made(s, i));
    }

    int apart() {
        return both("apart()", x.apart(), model.apart());
    }

    int odd() {
        return both("odd()", x.odd(), model.odd());
    }
}
