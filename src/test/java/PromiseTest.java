/** For each promise of the document: ordinary inputs, the edges that it names, and wrong inputs. */
public final class PromiseTest {
    private static final int UNKNOWN = -1, OUTSIDE = -2, ROOM = -3, NONE = -4;
    private static final int LEAST = Integer.MIN_VALUE, MOST = Integer.MAX_VALUE;

    private static String promise;

    private PromiseTest() {
    }

    private static void due(String call, int got, int want) {
        Due.due("promise " + promise + ": " + call, got, want);
    }

    public static void main(String[] args) {
        promise = "1";
        newObject();
        promise = "2";
        choices();
        promise = "3";
        prices();
        promise = "4, 5";
        futures();
        promise = "6";
        parts();
        promise = "7";
        joins();
        promise = "8";
        locals();
        promise = "9";
        rows();
        promise = "10";
        weighings();
        weighingsInAnswers();
        promise = "11";
        shifts();
        promise = "12";
        runs();
        runsOfNothing();
        promise = "12, 20: 200 cuts at most";
        runsWithoutRoom();
        promise = "13";
        toldBounds();
        promise = "14, 15, 16";
        bestMasterShare();
        promise = "17";
        asking();
        promise = "18";
        answers();
        promise = "19";
        units();
        promise = "20";
        cuts();
        promise = "21";
        reasonsByRisingNumbers();
        reasonsAndBarredValues();
        reasonsOfBounds();
        promise = "22";
        judging();
        promise = "terms 3";
        whatTakesCutsAway();
        whatIsRefusedChangesNothing();
        mastersByOrder();
        Due.end();
    }

    private static void newObject() {
        SplitRounds x = new SplitRounds();
        int[] want = {0, 0, NONE, NONE, 1, 0, 0, 1, 0};
        for (int i = 0; i < want.length; i++) {
            due("told(" + i + ")", x.told(i), want[i]);
        }
        due("price(0, 0, 0)", x.price(0, 0, 0), UNKNOWN);
        due("join(0, 0)", x.join(0, 0), UNKNOWN);
        due("weight(0, 1)", x.weight(0, 1), 1);
        due("weight(1, 1)", x.weight(1, 1), UNKNOWN);
    }

    private static void choices() {
        SplitRounds x = new SplitRounds();
        for (int n : new int[] {LEAST, -4, 0, 1, 5, MOST}) {
            due("choice(" + n + ")", x.choice(n), OUTSIDE);
        }
        int[] sizes = {2, 3, 4, 2, 3, 4};
        for (int c = 0; c < 6; c++) {
            due("choice", x.choice(sizes[c]), c);
            due("told(5)", x.told(5), c + 1);
            due("last value", x.price(c, sizes[c] - 1, 1), 1);
            due("a value too many", x.price(c, sizes[c], 1), UNKNOWN);
        }
        due("the seventh", x.choice(2), ROOM);
        due("the seventh, OUTSIDE counts first", x.choice(5), OUTSIDE);
        due("told(5)", x.told(5), 6);
    }

    private static void prices() {
        SplitRounds x = new SplitRounds();
        x.choice(2);
        x.future(3);
        due("judge, prices 0 at first", x.judge(), 0);
        due("price(0, 0, 200)", x.price(0, 0, 200), 1);
        due("price(0, 1, 200)", x.price(0, 1, 200), 1);
        due("judge, W times a price", x.judge(), 800);
        due("price(0, 0, NONE)", x.price(0, 0, NONE), 1);
        due("price(0, 1, 7)", x.price(0, 1, 7), 1);
        due("judge, value 0 is barred", x.judge(), 28);
        due("price(0, 1, NONE)", x.price(0, 1, NONE), 1);
        due("judge, all values are barred", x.judge(), NONE);
        due("price(0, 0, 0)", x.price(0, 0, 0), 1);
        due("judge, not barred any more", x.judge(), 0);
        for (int price : new int[] {LEAST, -5, -3, -2, -1, 201, MOST}) {
            due("price(0, 0, " + price + ")", x.price(0, 0, price), OUTSIDE);
        }
        for (int n : new int[] {LEAST, -1, 2, 4, MOST}) {
            due("price(0, " + n + ", 0)", x.price(0, n, 0), UNKNOWN);
            due("price(" + n + ", 0, 0)", x.price(n, 0, 0), UNKNOWN);
            due("price(" + n + ", 0, 201), UNKNOWN counts first", x.price(n, 0, 201), UNKNOWN);
        }
        due("price(1, 0, 0)", x.price(1, 0, 0), UNKNOWN);
    }

    private static void futures() {
        SplitRounds x = new SplitRounds();
        for (int w : new int[] {LEAST, -1, 0, 21, MOST}) {
            due("future(" + w + ")", x.future(w), OUTSIDE);
            due("weight(0, " + w + ")", x.weight(0, w), OUTSIDE);
            due("weight(1, " + w + "), UNKNOWN counts first", x.weight(1, w), UNKNOWN);
        }
        due("future(20)", x.future(20), 1);
        due("future(1)", x.future(1), 2);
        due("future(7)", x.future(7), 3);
        due("told(4)", x.told(4), 29);
        due("told(7)", x.told(7), 4);
        due("future(1)", x.future(1), ROOM);
        due("future(21), OUTSIDE counts first", x.future(21), OUTSIDE);
        due("weight(0, 20)", x.weight(0, 20), 1);
        due("weight(1, 1)", x.weight(1, 1), 20);
        due("weight(3, 3)", x.weight(3, 3), 7);
        due("weight(4, 3)", x.weight(4, 3), UNKNOWN);
        due("weight(-1, 3)", x.weight(-1, 3), UNKNOWN);
        due("told(4)", x.told(4), 25);

        SplitRounds y = Plans.shop();
        y.future(5);
        due("judge, a weight for each future", y.judge(), 6 * 9);
        y.price(0, 2, NONE);
        due("judge", y.judge(), 6 * 4 + 6 * 10);
    }

    private static void parts() {
        SplitRounds x = new SplitRounds();
        for (int p = 0; p < 4; p++) {
            due("part()", x.part(), p);
            due("told(6)", x.told(6), p + 1);
            due("answer without locals and rows", x.answer(p, 0), 0);
        }
        due("the fifth", x.part(), ROOM);
        due("told(6)", x.told(6), 4);
    }

    private static void joins() {
        SplitRounds x = new SplitRounds();
        for (int c = 0; c < 5; c++) {
            x.choice(2);
        }
        x.part();
        due("join(0, 3)", x.join(0, 3), 1);
        due("join(0, 0)", x.join(0, 0), 2);
        due("join(0, 3)", x.join(0, 3), NONE);
        due("join(0, 4)", x.join(0, 4), 3);
        due("join(0, 1)", x.join(0, 1), ROOM);
        due("join(0, 0), NONE counts first", x.join(0, 0), NONE);
        for (int n : new int[] {LEAST, -4, -1, 5, MOST}) {
            due("join(0, " + n + ")", x.join(0, n), UNKNOWN);
            due("join(" + n + ", 0)", x.join(n, 0), UNKNOWN);
        }
        due("join(1, 0)", x.join(1, 0), UNKNOWN);
    }

    private static void locals() {
        SplitRounds x = new SplitRounds();
        x.part();
        for (int n : new int[] {LEAST, -1, 4, MOST}) {
            due("local(0, " + n + ", 1)", x.local(0, n, 1), OUTSIDE);
        }
        due("local(0, 0, 1)", x.local(0, 0, 1), OUTSIDE);
        for (int n : new int[] {LEAST, -4, -1, 51, MOST}) {
            due("local(0, 1, " + n + ")", x.local(0, 1, n), OUTSIDE);
            due("local(" + n + ", 1, 1)", x.local(n, 1, 1), UNKNOWN);
        }
        due("local(1, 0, 51), UNKNOWN counts first", x.local(1, 0, 51), UNKNOWN);
        due("local(0, 1, 0)", x.local(0, 1, 0), 0);
        due("local(0, 3, 50)", x.local(0, 3, 50), 1);
        due("local(0, 2, 25)", x.local(0, 2, 25), 2);
        due("local(0, 2, 25)", x.local(0, 2, 25), 3);
        due("local(0, 2, 25)", x.local(0, 2, 25), ROOM);
        due("local(0, 4, 25), OUTSIDE counts first", x.local(0, 4, 25), OUTSIDE);
        due("a part has locals of its own", x.part(), 1);
        due("local(1, 1, 1)", x.local(1, 1, 1), 0);
    }

    private static void rows() {
        SplitRounds x = new SplitRounds();
        x.part();
        for (int n : new int[] {LEAST, -100, 100, MOST}) {
            due("row(0, " + n + ")", x.row(0, n), OUTSIDE);
            due("row(1, " + n + "), UNKNOWN counts first", x.row(1, n), UNKNOWN);
            due("row(" + n + ", 0)", x.row(n, 0), UNKNOWN);
        }
        due("row(0, 99)", x.row(0, 99), 0);
        due("row(0, 0)", x.row(0, 0), 1);
        due("rows of nothing: 0 is at most 0", x.answer(0, 0), 0);
        due("row(0, -99)", x.row(0, -99), 2);
        due("0 is not at most -99", x.answer(0, 0), NONE);
        due("row(0, 0)", x.row(0, 0), 3);
        due("row(0, 0)", x.row(0, 0), 4);
        due("row(0, 0)", x.row(0, 0), 5);
        due("row(0, 0)", x.row(0, 0), ROOM);
        due("row(0, 100), OUTSIDE counts first", x.row(0, 100), OUTSIDE);
        due("row(-1, 0)", x.row(-1, 0), UNKNOWN);
    }

    private static void weighings() {
        SplitRounds x = new SplitRounds();
        for (int c = 0; c < 6; c++) {
            x.choice(4);
        }
        x.part();
        x.part();
        due("no row yet", x.weigh(0, 0, false, 0, 1), UNKNOWN);
        x.row(0, 5);
        x.row(0, 5);
        due("no local yet", x.weigh(0, 0, false, 0, 1), UNKNOWN);
        x.local(0, 3, 1);
        x.join(0, 5);
        x.join(0, 2);
        due("a local's", x.weigh(0, 0, false, 0, 9), 0);
        due("again", x.weigh(0, 0, false, 0, -9), 9);
        due("again", x.weigh(0, 0, false, 0, -9), -9);
        due("in another row", x.weigh(0, 1, false, 0, 3), 0);
        due("a choice's, by its own number", x.weigh(0, 0, true, 5, 4), 0);
        due("the other choice's", x.weigh(0, 0, true, 2, -3), 0);
        due("again", x.weigh(0, 0, true, 5, 1), 4);
        due("again", x.weigh(0, 0, true, 2, 1), -3);
        for (int n : new int[] {LEAST, -1, 0, 1, 3, 4, 6, MOST}) {
            due("not joined to " + n, x.weigh(0, 0, true, n, 1), UNKNOWN);
        }
        for (int n : new int[] {LEAST, -1, 1, 5, MOST}) {
            due("no local " + n, x.weigh(0, 0, false, n, 1), UNKNOWN);
        }
        for (int n : new int[] {LEAST, -1, 2, 6, MOST}) {
            due("no row " + n, x.weigh(0, n, false, 0, 1), UNKNOWN);
            due("no part " + n, x.weigh(n, 0, false, 0, 1), UNKNOWN);
        }
        due("a part without rows", x.weigh(1, 0, false, 0, 1), UNKNOWN);
        for (int v : new int[] {LEAST, -10, 10, MOST}) {
            due("weighing " + v, x.weigh(0, 0, true, 5, v), OUTSIDE);
            due("weighing " + v, x.weigh(0, 0, false, 0, v), OUTSIDE);
            due("UNKNOWN counts first", x.weigh(0, 0, true, 4, v), UNKNOWN);
        }
    }

    private static void weighingsInAnswers() {
        SplitRounds x = new SplitRounds();
        for (int c = 0; c < 6; c++) {
            x.choice(4);
        }
        x.part();
        x.local(0, 3, 5);
        x.row(0, 0);
        x.join(0, 5);
        x.weigh(0, 0, true, 5, 2);
        x.weigh(0, 0, false, 0, -2);
        x.ask(5, 3);
        due("three units for the value 3", x.answer(0, 0), 15);
        x.join(0, 1);
        due("a weighing is kept when a choice is joined ahead", x.answer(0, 0), 15);
        x.ask(1, 2);
        due("0 at first", x.answer(0, 0), 15);
        x.weigh(0, 0, true, 1, -1);
        due("2 less of 6", x.answer(0, 0), 10);
    }

    private static void shifts() {
        SplitRounds x = Plans.shop();
        x.future(2);
        due("shift(1, 0, 0, -1)", x.shift(1, 0, 0, -1), 0);
        due("future 0", x.answer(0, 0), 20);
        due("future 1", x.answer(0, 1), 30);
        due("shift(1, 0, 0, 99)", x.shift(1, 0, 0, 99), -1);
        due("future 1", x.answer(0, 1), 0);
        due("shift(1, 0, 0, -99)", x.shift(1, 0, 0, -99), 99);
        due("future 1", x.answer(0, 1), NONE);
        due("shift(0, 0, 0, 1)", x.shift(0, 0, 0, 1), 0);
        due("future 0", x.answer(0, 0), 10);
        for (int n : new int[] {LEAST, -1, 2, MOST}) {
            due("no future " + n, x.shift(n, 0, 0, 0), UNKNOWN);
            due("no part " + n, x.shift(0, n, 0, 0), UNKNOWN);
            due("no row " + n, x.shift(0, 0, n, 0), UNKNOWN);
        }
        due("no row 1", x.shift(0, 0, 1, 0), UNKNOWN);
        for (int v : new int[] {LEAST, -100, 100, MOST}) {
            due("shift " + v, x.shift(0, 0, 0, v), OUTSIDE);
            due("UNKNOWN counts first", x.shift(0, 0, 1, v), UNKNOWN);
        }
        due("what it was is kept", x.shift(0, 0, 0, 0), 1);
    }

    private static void dueRounds(SplitRounds x, int rounds, int cuts, int lower, int upper, int end) {
        int[] want = {rounds, cuts, lower, upper};
        for (int i = 0; i < want.length; i++) {
            due("told(" + i + ")", x.told(i), want[i]);
        }
        due("told(8)", x.told(8), end);
    }

    private static void runs() {
        SplitRounds x = Plans.shop();
        due("run(1)", x.run(1), 2);
        dueRounds(x, 1, 1, 0, 20, 0);
        due("run(1)", x.run(1), 2);
        dueRounds(x, 2, 2, 4, 14, 0);
        due("run(1)", x.run(1), 1);
        dueRounds(x, 3, 2, 9, 9, 1);
        due("run(50) at the end", x.run(50), 1);
        dueRounds(x, 3, 2, 9, 9, 1);
        for (int n : new int[] {LEAST, -1, 0, 51, MOST}) {
            due("run(" + n + ")", x.run(n), OUTSIDE);
        }
        x.price(0, 2, NONE);
        dueRounds(x, 0, 2, NONE, NONE, 0);
        due("with the cuts there were, run(50)", x.run(50), 1);
        dueRounds(x, 1, 2, 14, 14, 1);
        x.shift(0, 0, 0, -9);
        due("nothing is possible", x.run(50), 0);
        dueRounds(x, 2, 1, NONE, NONE, 2);
        due("master(0)", x.master(0), NONE);
        due("run(2) at the end", x.run(2), 0);
        dueRounds(x, 2, 1, NONE, NONE, 2);
        due("run(0) at the end", x.run(0), OUTSIDE);
    }

    private static void runsOfNothing() {
        SplitRounds x = new SplitRounds();
        due("one plan of nothing", x.run(50), 1);
        dueRounds(x, 1, 0, 0, 0, 1);
        x.part();
        x.local(0, 2, 7);
        x.row(0, -2);
        x.weigh(0, 0, false, 0, -1);
        due("a part without choices", x.run(1), 2);
        dueRounds(x, 1, 1, 0, 14, 0);
        due("run(1)", x.run(1), 1);
        dueRounds(x, 2, 1, 14, 14, 1);
        due("cut(0, 4)", x.cut(0, 4), 0);
        due("judge()", x.judge(), 14);
        x.row(0, -1);
        due("its row can't hold", x.run(1), 2);
        dueRounds(x, 1, 1, 0, NONE, 0);
        due("run(1)", x.run(1), 0);
        dueRounds(x, 2, 1, NONE, NONE, 2);
        due("judge()", x.judge(), NONE);
    }

    private static void runsWithoutRoom() {
        SplitRounds x = Plans.endless();
        int rounds = 0;
        for (int i = 0; i < 50 && x.told(1) < 200 && x.told(8) == 0; i++) {
            x.run(1);
            rounds++;
            due("told(0)", x.told(0), rounds);
            due("cuts are never more than 200", Math.max(200, x.told(1)), 200);
        }
        due("told(1)", x.told(1), 200);
        due("told(8)", x.told(8), 0);
        due("the latest cut came in the latest round", x.cut(199, 5), rounds - 1);
        due("no cut 200", x.cut(200, 0), UNKNOWN);
        x.run(1);
        int lower = x.told(2);
        int upper = x.told(3);
        due("told(8)", x.told(8), 0);
        due("run(50)", x.run(50), 2);
        due("rounds without cuts count", x.told(0), rounds + 51);
        due("run(7)", x.run(7), 2);
        dueRounds(x, rounds + 58, 200, lower, upper, 0);
        due("cut(199, 5)", x.cut(199, 5), rounds - 1);
        Due.holds("the lower is at most the judge's", lower < x.judge());
        x.shift(0, 0, 0, 0);
        Due.holds("cuts of part 0 are gone, others are not", x.told(1) < 200 && x.told(1) > 0 && x.cut(0, 1) != 0);
        due("there is room again", x.run(1), 2);
        Due.holds("a cut of part 0 came", x.cut(x.told(1) - 1, 5) == 0);
    }

    private static void toldBounds() {
        SplitRounds x = Plans.shop();
        for (int n : new int[] {LEAST, -4, -1, 9, MOST}) {
            due("told(" + n + ")", x.told(n), OUTSIDE);
        }
        x.future(6);
        x.choice(2);
        x.part();
        int[] want = {0, 0, NONE, NONE, 7, 2, 2, 2, 0};
        for (int i = 0; i < want.length; i++) {
            due("told(" + i + ")", x.told(i), want[i]);
        }
    }

    private static void dueBest(SplitRounds x, int best, int master, int ofPart, int ofPrices) {
        due("best(0)", x.best(0), best);
        due("master(0)", x.master(0), master);
        due("share(0)", x.share(0), ofPart);
        due("share(NONE)", x.share(NONE), ofPrices);
    }

    private static void bestMasterShare() {
        SplitRounds x = Plans.shop();
        dueBest(x, NONE, NONE, NONE, NONE);
        x.run(1);
        dueBest(x, 0, 0, 20, 0);
        x.run(1);
        dueBest(x, 1, 1, 10, 4);
        x.run(1);
        dueBest(x, 2, 2, 0, 9);
        for (int n : new int[] {LEAST, -4, -1, 1, 6, MOST}) {
            due("best(" + n + ")", x.best(n), UNKNOWN);
            due("master(" + n + ")", x.master(n), UNKNOWN);
        }
        for (int n : new int[] {LEAST, -5, -3, -2, -1, 1, 4, MOST}) {
            due("share(" + n + ")", x.share(n), UNKNOWN);
        }
        x.price(0, 2, 15);
        dueBest(x, NONE, NONE, NONE, NONE);
        due("share(1), UNKNOWN counts first", x.share(1), UNKNOWN);
        due("best(1), UNKNOWN counts first", x.best(1), UNKNOWN);
        x.future(2);
        x.shift(1, 0, 0, 1);
        x.run(50);
        dueBest(x, 1, 1, 10, 12);

        SplitRounds y = Plans.shop();
        y.price(0, 0, 5);
        y.price(0, 1, 0);
        y.price(0, 2, 1);
        y.shift(0, 0, 0, 2);
        y.weigh(0, 0, true, 0, 1);
        y.run(1);
        dueBest(y, 1, 1, 10, 0);
        y.price(0, 1, NONE);
        y.shift(0, 0, 0, -2);
        y.run(1);
        dueBest(y, NONE, 2, NONE, NONE);
    }

    private static void asking() {
        SplitRounds x = Plans.shop();
        due("ask(0, 2), at first 0", x.ask(0, 2), 0);
        due("ask(0, 2)", x.ask(0, 2), 2);
        due("ask(0, 1)", x.ask(0, 1), 2);
        for (int n : new int[] {LEAST, -4, -1, 3, 6, MOST}) {
            due("ask(0, " + n + ")", x.ask(0, n), UNKNOWN);
            due("ask(" + n + ", 0)", x.ask(n, 0), UNKNOWN);
        }
        x.price(0, 2, NONE);
        due("a barred value", x.ask(0, 2), 1);
        due("answer to a barred value", x.answer(0, 0), 0);
        x.run(50);
        int rounds = x.told(0);
        due("ask leaves the end as it is", x.ask(0, 0), 2);
        due("told(0)", x.told(0), rounds);
        due("told(8)", x.told(8), 1);
    }

    private static void answers() {
        SplitRounds x = Plans.shop();
        due("to 0", x.answer(0, 0), 20);
        x.ask(0, 1);
        due("to 1", x.answer(0, 0), 10);
        x.ask(0, 2);
        due("to 2", x.answer(0, 0), 0);
        x.row(0, -3);
        x.weigh(0, 1, false, 0, -1);
        due("both rows hold", x.answer(0, 0), 30);
        x.weigh(0, 0, false, 0, 1);
        due("none", x.answer(0, 0), NONE);
        for (int n : new int[] {LEAST, -4, -1, 1, 4, MOST}) {
            due("answer(0, " + n + ")", x.answer(0, n), UNKNOWN);
            due("answer(" + n + ", 0)", x.answer(n, 0), UNKNOWN);
        }
        x.part();
        x.join(1, 0);
        x.row(1, 1);
        x.weigh(1, 0, true, 0, 1);
        due("without locals NONE", x.answer(1, 0), NONE);
        x.ask(0, 1);
        due("without locals 0", x.answer(1, 0), 0);
    }

    private static void units() {
        SplitRounds x = new SplitRounds();
        x.part();
        x.local(0, 2, 5);
        x.local(0, 2, 5);
        x.local(0, 3, 0);
        x.row(0, -2);
        x.weigh(0, 0, false, 0, -1);
        x.weigh(0, 0, false, 1, -1);
        due("answer(0, 0)", x.answer(0, 0), 10);
        due("the first by order: unit 0", x.unit(0, 0, 0), 0);
        due("unit 1", x.unit(0, 0, 1), 2);
        due("unit 2", x.unit(0, 0, 2), 0);
        x.weigh(0, 0, false, 0, -2);
        due("answer(0, 0)", x.answer(0, 0), 5);
        due("unit 0", x.unit(0, 0, 0), 1);
        due("unit 1", x.unit(0, 0, 1), 0);
        x.weigh(0, 0, false, 2, -1);
        due("answer(0, 0), for nothing", x.answer(0, 0), 0);
        due("unit 0", x.unit(0, 0, 0), 0);
        due("unit 2", x.unit(0, 0, 2), 2);
        x.future(1);
        x.shift(1, 0, 0, -7);
        due("in future 1, unit 0", x.unit(0, 1, 0), 2);
        due("unit 1", x.unit(0, 1, 1), 2);
        due("unit 2", x.unit(0, 1, 2), 3);
        x.shift(1, 0, 0, -8);
        due("none", x.unit(0, 1, 0), NONE);
        due("UNKNOWN counts first", x.unit(0, 1, 3), UNKNOWN);
        for (int n : new int[] {LEAST, -1, 3, 4, MOST}) {
            due("unit(0, 0, " + n + ")", x.unit(0, 0, n), UNKNOWN);
            due("unit(0, " + n + ", 0)", x.unit(0, n, 0), UNKNOWN);
            due("unit(" + n + ", 0, 0)", x.unit(n, 0, 0), UNKNOWN);
        }
    }

    private static void dueCut(SplitRounds x, int k, int... want) {
        for (int i = 0; i < want.length; i++) {
            due("cut(" + k + ", " + i + ")", x.cut(k, i), want[i]);
        }
    }

    private static void cuts() {
        SplitRounds x = Plans.shop();
        x.future(1);
        x.shift(1, 0, 0, -2);
        due("cut(0, 0)", x.cut(0, 0), UNKNOWN);
        x.run(1);
        dueCut(x, 0, 1, 0, 0, 20, 1, 0, 1);
        dueCut(x, 1, 0, 0, 1, NONE, 1, 0, 1);
        x.run(1);
        dueCut(x, 2, 1, 0, 0, 10, 1, 1, 0);
        dueCut(x, 3, 1, 0, 1, 30, 1, 1, 0);
        x.ask(0, 1);
        dueCut(x, 0, 1, 0, 0, 20, 1, 0, 0);
        dueCut(x, 3, 1, 0, 1, 30, 1, 1, 1);
        for (int n : new int[] {LEAST, -4, -1, 7, MOST}) {
            due("cut(0, " + n + ")", x.cut(0, n), OUTSIDE);
            due("cut(" + n + ", 0)", x.cut(n, 0), UNKNOWN);
            due("UNKNOWN counts first", x.cut(n, 7), UNKNOWN);
        }
        due("cut(4, 0)", x.cut(4, 0), UNKNOWN);
        due("reason(0, 0)", x.reason(0, 0), 0);
        due("reason(3, 0)", x.reason(3, 0), 1);
        for (int n : new int[] {LEAST, -1, 1, 2, 3, MOST}) {
            due("reason(3, " + n + ")", x.reason(3, n), NONE);
        }
        for (int n : new int[] {LEAST, -1, 4, 200, MOST}) {
            due("reason(" + n + ", 0)", x.reason(n, 0), UNKNOWN);
            due("reason(" + n + ", 9), UNKNOWN counts first", x.reason(n, 9), UNKNOWN);
        }
    }

    /** Either choice alone bears the bar: the first by number is left out, whichever was joined first. */
    private static void reasonsByRisingNumbers() {
        SplitRounds x = new SplitRounds();
        x.choice(2);
        x.choice(2);
        x.choice(3);
        x.part();
        x.join(0, 2);
        x.join(0, 0);
        x.join(0, 1);
        x.row(0, -1);
        x.row(0, -1);
        x.weigh(0, 0, true, 0, -1);
        x.weigh(0, 1, true, 2, -1);
        x.run(1);
        dueCut(x, 0, 0, 0, 0, NONE, 1, 0, 1);
        due("reason(0, 0)", x.reason(0, 0), 20);
        due("reason(0, 1)", x.reason(0, 1), NONE);
        x.row(0, 1);
        x.weigh(0, 2, true, 0, 1);
        x.weigh(0, 2, true, 1, 1);
        x.weigh(0, 0, true, 0, 0);
        x.weigh(0, 0, true, 1, 0);
        x.weigh(0, 1, true, 2, 0);
        due("nothing helps", x.run(1), 2);
        due("no reasons", x.cut(0, 4), 0);
        due("met by all", x.cut(0, 6), 1);
        due("reason(0, 0)", x.reason(0, 0), NONE);

        SplitRounds y = new SplitRounds();
        y.choice(2);
        y.choice(2);
        y.part();
        y.join(0, 1);
        y.join(0, 0);
        y.row(0, 1);
        y.weigh(0, 0, true, 0, 1);
        y.weigh(0, 0, true, 1, 1);
        y.price(0, 0, NONE);
        y.price(1, 0, NONE);
        y.run(1);
        due("both are reasons", y.cut(0, 4), 2);
        due("reason(0, 0)", y.reason(0, 0), 1);
        due("reason(0, 1)", y.reason(0, 1), 11);
    }

    private static void reasonsAndBarredValues() {
        SplitRounds x = new SplitRounds();
        x.choice(2);
        x.part();
        x.join(0, 0);
        x.row(0, -1);
        x.weigh(0, 0, true, 0, -1);
        x.price(0, 1, NONE);
        due("run(1)", x.run(1), 2);
        due("the barred value counts", x.cut(0, 4), 1);
        due("reason(0, 0)", x.reason(0, 0), 0);
        due("run(1)", x.run(1), 0);
        due("told(1)", x.told(1), 1);
        x.price(0, 1, 3);
        due("run(1), with the bar there was", x.run(1), 1);
        due("told(3)", x.told(3), 3);
    }

    /** A bound stays true where the answer is NONE, and where it is more. */
    private static void reasonsOfBounds() {
        SplitRounds x = Plans.shop();
        x.weigh(0, 0, true, 0, 1);
        x.run(1);
        dueCut(x, 0, 1, 0, 0, 20, 0, 0, 1);
        due("20, 30, NONE: reason(0, 0)", x.reason(0, 0), NONE);
        x.price(0, 0, NONE);
        x.run(1);
        dueCut(x, 1, 1, 0, 0, 30, 1, 0, 0);
        due("30 is not true of 0: reason(1, 0)", x.reason(1, 0), 1);
        due("told(2), by the bound of 20", x.told(2), 24);
        due("told(3)", x.told(3), 34);
        due("run(50)", x.run(50), 1);
        due("told(3)", x.told(3), 34);
        dueCut(x, 2, 0, 0, 0, NONE, 1, 1, 0);
    }

    private static void judging() {
        SplitRounds x = Plans.shop();
        due("judge()", x.judge(), 9);
        due("judge does no rounds", x.told(0), 0);
        due("judge brings no cuts", x.told(1), 0);
        due("judge finds no best", x.told(3), NONE);
        x.price(0, 2, 14);
        due("judge()", x.judge(), 14);
        x.price(0, 2, 200);
        x.price(0, 1, 200);
        due("judge()", x.judge(), 20);
        x.run(1);
        due("judge()", x.judge(), 20);
        due("the latest master stays", x.master(0), 0);
        x.part();
        x.row(1, -1);
        due("a part that never answers", x.judge(), NONE);

        SplitRounds y = Plans.endless();
        for (int c = 0; c < 6; c++) {
            for (int v = 0; v < 4; v++) {
                y.price(c, v, 200 - v);
            }
        }
        Due.holds("a judge over all plans", y.judge() > 4 * 6 * 197);
    }

    /** Two parts with a bound each; both are told of in turn. */
    private static SplitRounds twoParts() {
        SplitRounds x = Plans.shop();
        x.choice(2);
        x.part();
        x.join(1, 1);
        x.local(1, 1, 6);
        x.row(1, -1);
        x.weigh(1, 0, false, 0, -1);
        x.weigh(1, 0, true, 1, -1);
        x.run(1);
        return x;
    }

    private static void dueKept(String call, SplitRounds x, int answered, int want) {
        due(call, answered, want);
        dueRounds(x, 0, 2, NONE, NONE, 0);
        due(call + ", cut(0, 1)", x.cut(0, 1), 0);
        due(call + ", master(0)", x.master(0), NONE);
        due(call + ", best(0)", x.best(0), NONE);
        x.run(1);
        due(call + ", told(0)", x.told(0), 1);
    }

    private static void dueGone(String call, SplitRounds x, int answered, int want) {
        due(call, answered, want);
        dueRounds(x, 0, 1, NONE, NONE, 0);
        due(call + ", the other moved", x.cut(0, 1), 1);
        due(call + ", its number", x.cut(0, 3), 6);
        due(call + ", its reason", x.reason(0, 0), 10);
        due(call + ", cut(1, 1)", x.cut(1, 1), UNKNOWN);
        due(call + ", master(0)", x.master(0), NONE);
    }

    private static void whatTakesCutsAway() {
        due("told(1)", twoParts().told(1), 2);
        SplitRounds x = twoParts();
        dueKept("choice", x, x.choice(2), 2);
        x = twoParts();
        dueKept("price as it was", x, x.price(0, 0, 0), 1);
        x = twoParts();
        dueKept("barred", x, x.price(0, 2, NONE), 1);
        x = twoParts();
        dueKept("future", x, x.future(1), 1);
        x = twoParts();
        dueKept("weight as it was", x, x.weight(0, 1), 1);
        x = twoParts();
        dueKept("part", x, x.part(), 2);
        x = twoParts();
        dueGone("join", x, x.join(0, 1), 2);
        x = twoParts();
        dueGone("local", x, x.local(0, 1, 50), 1);
        x = twoParts();
        dueGone("row", x, x.row(0, 99), 1);
        x = twoParts();
        dueGone("weigh as it was", x, x.weigh(0, 0, false, 0, -1), -1);
        x = twoParts();
        dueGone("shift as it was", x, x.shift(0, 0, 0, 0), 0);
    }

    private static void whatIsRefusedChangesNothing() {
        SplitRounds x = twoParts();
        x.choice(5);
        x.price(0, 3, 1);
        x.price(0, 0, 201);
        x.future(21);
        x.weight(0, 21);
        x.weight(1, 1);
        x.join(0, 0);
        x.join(0, 2);
        x.join(2, 0);
        x.local(0, 4, 1);
        x.local(2, 1, 1);
        x.row(0, 100);
        x.weigh(0, 0, true, 0, 10);
        x.weigh(0, 0, true, 1, 1);
        x.shift(0, 0, 0, 100);
        x.shift(1, 0, 0, 0);
        x.ask(0, 3);
        x.run(51);
        dueRounds(x, 1, 2, 0, 26, 0);
        due("best(0)", x.best(0), 0);
        due("run(50)", x.run(50), 1);
        due("told(3)", x.told(3), 9);
        due("best(1)", x.best(1), 1);
        due("ask(0, 0)", x.ask(0, 0), 0);
    }

    private static void mastersByOrder() {
        SplitRounds x = new SplitRounds();
        x.choice(3);
        x.choice(3);
        x.price(0, 0, 2);
        x.price(1, 0, 2);
        x.price(0, 1, 1);
        x.price(1, 1, 1);
        x.price(0, 2, 1);
        x.price(1, 2, 1);
        due("run(1)", x.run(1), 1);
        due("of several the first by order: best(0)", x.best(0), 1);
        due("best(1)", x.best(1), 1);
        x.price(0, 0, 1);
        x.price(1, 1, 2);
        x.run(1);
        due("best(0)", x.best(0), 0);
        due("best(1)", x.best(1), 2);
    }
}
