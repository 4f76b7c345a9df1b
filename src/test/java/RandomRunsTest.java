import java.util.Random;

/** Random runs of calls, each call answered by SplitRounds and by the plain model. */
public final class RandomRunsTest {
    private static final int RUNS = 1500;

    private final Random random;
    private final int number;
    private final SplitRounds x = new SplitRounds();
    private final PlainModel m = new PlainModel();
    private int calls = 0;

    /** What all runs together must have seen, or they test too little. */
    private static int proved = 0, impossible = 0, open = 0, full = 0, stuck = 0, kept = 0, bars = 0, freed = 0;

    private RandomRunsTest(int number) {
        this.number = number;
        this.random = new Random(number);
    }

    public static void main(String[] args) {
        for (int i = 0; i < RUNS; i++) {
            new RandomRunsTest(i).play(i % 50 == 0);
        }
        System.out.println("proved " + proved + ", impossible " + impossible + ", open " + open + ", full " + full
                + ", stuck " + stuck + ", cuts kept " + kept + ", bars " + bars + ", reasons left out " + freed);
        Due.holds("every kind of run was seen", proved > 100 && impossible > 100 && open > 100 && full > 5
                && stuck > 5 && kept > 100 && bars > 100 && freed > 100);
        Due.end();
    }

    private void same(String call, int got, int want) {
        calls++;
        Due.due("run " + number + ", call " + calls + ": " + call, got, want);
    }

    private int upTo(int n) {
        return random.nextInt(n + 1);
    }

    private int between(int from, int to) {
        return from + random.nextInt(to - from + 1);
    }

    /** A number of a thing: mostly one there is, now and then one there isn't. */
    private int one(int count) {
        return random.nextInt(12) == 0 || count == 0 ? between(-5, 8) : random.nextInt(count);
    }

    /** A number within bounds, sometimes at them, now and then outside. */
    private int within(int from, int to) {
        switch (random.nextInt(16)) {
            case 0: return from;
            case 1: return to;
            case 2: return from - 1;
            case 3: return to + 1;
            default: return between(from, to);
        }
    }

    private void play(boolean large) {
        build(large);
        int length = large ? 60 : between(30, 200);
        for (int i = 0; i < length && calls < 480; i++) {
            if (random.nextInt(100) < (large ? 8 : 30)) {
                tell();
            } else if (random.nextInt(100) < (large ? 40 : 30)) {
                go(large);
            } else {
                askSomething(large);
            }
        }
    }

    private void build(boolean large) {
        int choices = large ? between(5, 6) : upTo(4);
        for (int c = 0; c < choices; c++) {
            int n = large ? 4 : between(2, 4);
            same("choice(" + n + ")", x.choice(n), m.choice(n));
            for (int v = 0; v < n; v++) {
                tellPrice(c, v, random.nextInt(9) == 0 && !large ? SplitRounds.NONE : upTo(large ? 1 : 60));
            }
        }
        for (int f = large ? 3 : upTo(3); f > 0; f--) {
            int weight = between(1, 20);
            same("future(" + weight + ")", x.future(weight), m.future(weight));
        }
        int parts = large ? 4 : upTo(4);
        for (int p = 0; p < parts; p++) {
            same("part()", x.part(), m.part());
            buildPart(p, large);
        }
    }

    private void buildPart(int p, boolean large) {
        for (int j = large ? 12 : upTo(3); j > 0; j--) {
            int c = one(x.told(5));
            same("join(" + p + ", " + c + ")", x.join(p, c), m.join(p, c));
        }
        int locals = large ? between(3, 4) : upTo(4);
        for (int i = 0; i < locals; i++) {
            int top = large ? 3 : between(1, 3);
            int price = random.nextInt(5) == 0 ? 0 : upTo(50);
            same("local(" + p + ", " + top + ", " + price + ")", x.local(p, top, price), m.local(p, top, price));
        }
        int rows = large ? between(2, 3) : upTo(4);
        for (int r = 0; r < rows; r++) {
            int limit = large ? between(-20, -8) : between(-12, 12);
            same("row(" + p + ", " + limit + ")", x.row(p, limit), m.row(p, limit));
            for (int i = 0; i < locals; i++) {
                tellWeighing(p, r, false, i, large ? between(-9, -3) : between(-9, 9));
            }
            for (int c = 0; c < 6; c++) {
                tellWeighing(p, r, true, c, large ? between(-5, 5) : between(-9, 9));
            }
            int f = one(x.told(7));
            int v = between(-6, 6);
            same("shift(" + f + ", " + p + ", " + r + ", " + v + ")", x.shift(f, p, r, v), m.shift(f, p, r, v));
        }
    }

    private void tellPrice(int c, int v, int price) {
        same("price(" + c + ", " + v + ", " + price + ")", x.price(c, v, price), m.price(c, v, price));
    }

    private void tellWeighing(int p, int r, boolean choice, int which, int v) {
        same("weigh(" + p + ", " + r + ", " + choice + ", " + which + ", " + v + ")",
                x.weigh(p, r, choice, which, v), m.weigh(p, r, choice, which, v));
    }

    private void tell() {
        int p = one(x.told(6));
        int cutsBefore = x.told(1);
        switch (random.nextInt(14)) {
            case 0: { int n = within(2, 4); same("choice(" + n + ")", x.choice(n), m.choice(n)); break; }
            case 1: case 2: case 3: tellPrice(one(x.told(5)), one(3), random.nextInt(5) == 0 ? -4 : within(0, 200)); break;
            case 4: { int w = within(1, 20); same("future(" + w + ")", x.future(w), m.future(w)); break; }
            case 5: case 6: {
                int f = one(x.told(7));
                int w = within(1, 20);
                same("weight(" + f + ", " + w + ")", x.weight(f, w), m.weight(f, w));
                break;
            }
            case 7: same("part()", x.part(), m.part()); break;
            case 8: { int c = one(x.told(5)); same("join(" + p + ", " + c + ")", x.join(p, c), m.join(p, c)); break; }
            case 9: {
                int top = within(1, 3);
                int price = within(0, 50);
                same("local(" + p + ", " + top + ", " + price + ")", x.local(p, top, price), m.local(p, top, price));
                break;
            }
            case 10: { int l = within(-99, 99); same("row(" + p + ", " + l + ")", x.row(p, l), m.row(p, l)); break; }
            case 11: case 12: tellWeighing(p, one(2), random.nextBoolean(), one(4), within(-9, 9)); break;
            default: {
                int f = one(x.told(7));
                int r = one(2);
                int v = random.nextInt(3) == 0 ? within(-99, 99) : between(-9, 9);
                same("shift(" + f + ", " + p + ", " + r + ", " + v + ")", x.shift(f, p, r, v), m.shift(f, p, r, v));
            }
        }
        kept += cutsBefore > 0 && x.told(0) == 0 && x.told(1) > 0 ? 1 : 0;
        sameState();
    }

    private void go(boolean large) {
        int n = random.nextInt(10) == 0 ? within(1, 50) : large ? between(3, 20) : between(1, 9);
        int roundsBefore = x.told(0);
        int cutsBefore = x.told(1);
        int got = x.run(n);
        same("run(" + n + ")", got, m.run(n));
        proved += got == 1 ? 1 : 0;
        impossible += got == 0 ? 1 : 0;
        open += got == 2 ? 1 : 0;
        full += x.told(1) == 200 ? 1 : 0;
        stuck += got == 2 && cutsBefore == 200 && x.told(0) > roundsBefore ? 1 : 0;
        sameState();
        sameCuts();
    }

    private void sameState() {
        for (int i = -1; i <= 9; i++) {
            Due.due("run " + number + ", after call " + calls + ": told(" + i + ")", x.told(i), m.told(i));
        }
        for (int c = -1; c <= 6; c++) {
            Due.due("run " + number + ", after call " + calls + ": best(" + c + ")", x.best(c), m.best(c));
            Due.due("run " + number + ", after call " + calls + ": master(" + c + ")", x.master(c), m.master(c));
        }
        for (int p = -5; p <= 4; p++) {
            Due.due("run " + number + ", after call " + calls + ": share(" + p + ")", x.share(p), m.share(p));
        }
    }

    private void sameCuts() {
        for (int k = -1; k <= x.told(1); k++) {
            for (int what = -1; what <= 7; what++) {
                Due.due("run " + number + ", after call " + calls + ": cut(" + k + ", " + what + ")", x.cut(k, what), m.cut(k, what));
            }
            for (int i = -1; i <= 3; i++) {
                Due.due("run " + number + ", after call " + calls + ": reason(" + k + ", " + i + ")", x.reason(k, i), m.reason(k, i));
            }
            bars += x.cut(k, 0) == 0 ? 1 : 0;
            freed += x.cut(k, 4) < 2 ? 1 : 0;
        }
    }

    private void askSomething(boolean large) {
        int p = one(x.told(6));
        int f = one(x.told(7));
        switch (random.nextInt(large ? 4 : 5)) {
            case 0: case 1: {
                int c = one(x.told(5));
                int v = one(3);
                same("ask(" + c + ", " + v + ")", x.ask(c, v), m.ask(c, v));
                break;
            }
            case 2: same("answer(" + p + ", " + f + ")", x.answer(p, f), m.answer(p, f)); break;
            case 3:
                for (int i = 0; i < 4; i++) {
                    same("unit(" + p + ", " + f + ", " + i + ")", x.unit(p, f, i), m.unit(p, f, i));
                }
                break;
            default: same("judge()", x.judge(), m.judge());
        }
        sameState();
    }
}
