/** Of each promise: the edges that its sentences name, and the calls that they refuse, one test each. */
public final class PromiseEdgeTest {
    private static final int UNKNOWN = -1, OUTSIDE = -2, ROOM = -3, NONE = -4;

    private PromiseEdgeTest() {
    }

    private static void promise(int number, String quote, Runnable test) {
        Sentences.test("Promise " + number, quote, test);
    }

    private static void due(String call, int got, int want) {
        Sentences.due(call, got, want);
    }

    public static void main(String[] args) {
        thingsThereAre();
        thingsOfParts();
        rounds();
        questions();
        Due.end();
    }

    private static void thingsThereAre() {
        promise(1, "No CHOICES", PromiseEdgeTest::noChoices);
        promise(1, "no PARTS", PromiseEdgeTest::noParts);
        promise(1, "one FUTURE", PromiseEdgeTest::oneFuture);
        promise(2, "A CHOICE with n VALUES: its number", PromiseEdgeTest::choiceHasItsValues);
        promise(2, "OUTSIDE: n is not 2 to 4", PromiseEdgeTest::choiceOutside);
        promise(2, "ROOM", PromiseEdgeTest::choiceRoom);
        promise(3, "A VALUE's PRICE", PromiseEdgeTest::priceOfFirstAndLastValue);
        promise(3, "(NONE: BARRED)", PromiseEdgeTest::priceBarred);
        promise(3, "UNKNOWN: no such CHOICE, VALUE", PromiseEdgeTest::priceUnknown);
        promise(3, "OUTSIDE", PromiseEdgeTest::priceOutside);
        promise(4, "A FUTURE more: its number", PromiseEdgeTest::futureMore);
        promise(4, "OUTSIDE: the WEIGHT", PromiseEdgeTest::futureOutside);
        promise(4, "ROOM", PromiseEdgeTest::futureRoom);
        promise(5, "what it was", PromiseEdgeTest::weightWas);
        promise(5, "UNKNOWN", PromiseEdgeTest::weightUnknown);
        promise(5, "OUTSIDE", PromiseEdgeTest::weightOutside);
        promise(6, "ROOM", PromiseEdgeTest::partRoom);
    }

    private static void thingsOfParts() {
        promise(7, "how many it is", PromiseEdgeTest::joinCounts);
        promise(7, "UNKNOWN: one of both", PromiseEdgeTest::joinUnknown);
        promise(7, "NONE: it is already", PromiseEdgeTest::joinAlready);
        promise(7, "ROOM: to three", PromiseEdgeTest::joinRoom);
        promise(8, "its number there", PromiseEdgeTest::localNumbers);
        promise(8, "UNKNOWN", PromiseEdgeTest::localUnknown);
        promise(8, "OUTSIDE: top, price", PromiseEdgeTest::localOutside);
        promise(8, "ROOM", PromiseEdgeTest::localRoom);
        promise(9, "without WEIGHINGS", PromiseEdgeTest::rowWithoutWeighings);
        promise(9, "its number there", PromiseEdgeTest::rowNumbers);
        promise(9, "UNKNOWN", PromiseEdgeTest::rowUnknown);
        promise(9, "OUTSIDE: the LIMIT", PromiseEdgeTest::rowOutside);
        promise(9, "ROOM", PromiseEdgeTest::rowRoom);
        promise(10, "of a CHOICE, if so; by its own number", PromiseEdgeTest::weighByOwnNumber);
        promise(10, "what it was", PromiseEdgeTest::weighWas);
        promise(10, "UNKNOWN: no such PART, ROW, LOCAL, CHOICE that it is JOINED to", PromiseEdgeTest::weighUnknown);
        promise(10, "OUTSIDE", PromiseEdgeTest::weighOutside);
        promise(11, "what it was", PromiseEdgeTest::shiftWas);
        promise(11, "UNKNOWN: no such FUTURE, PART, ROW", PromiseEdgeTest::shiftUnknown);
        promise(11, "OUTSIDE", PromiseEdgeTest::shiftOutside);
    }

    private static void rounds() {
        promise(12, "ROUNDS, n (1 to 50) at most, till THE END", PromiseEdgeTest::runAtMost);
        promise(12, "1: there is THE BEST, and it is proved", PromiseEdgeTest::runProves);
        promise(12, "0: nothing is POSSIBLE", PromiseEdgeTest::runImpossible);
        promise(12, "2: there was no END yet", PromiseEdgeTest::runOpen);
        promise(12, "At THE END nothing is done", PromiseEdgeTest::runAtTheEnd);
        promise(12, "OUTSIDE", PromiseEdgeTest::runOutside);
        promise(12, "(Without CHOICES there is one PLAN of nothing.)", PromiseEdgeTest::runOfNothing);
        promise(13, "0 ROUNDS, 1 CUTS", PromiseEdgeTest::toldRoundsAndCuts);
        promise(13, "2 THE LOWER (NONE: there was no ROUND, or no MASTER in the latest one)", PromiseEdgeTest::toldLower);
        promise(13, "3 THE UPPER (NONE)", PromiseEdgeTest::toldUpper);
        promise(13, "4 W, 5 CHOICES, 6 PARTS, 7 FUTURES", PromiseEdgeTest::toldCounts);
        promise(13, "8 THE END: 0 none yet, 1 there is THE BEST, 2 nothing is POSSIBLE", PromiseEdgeTest::toldEnd);
        promise(13, "OUTSIDE", PromiseEdgeTest::toldOutside);
        promise(14, "UNKNOWN", PromiseEdgeTest::bestUnknown);
        promise(14, "NONE: there is none", PromiseEdgeTest::bestNone);
        promise(15, "THE MASTER of the latest ROUND", PromiseEdgeTest::masterOfTheLatest);
        promise(15, "UNKNOWN", PromiseEdgeTest::masterUnknown);
        promise(15, "NONE: there is none", PromiseEdgeTest::masterNone);
        promise(16, "(of the PRICES of CHOICES: part is NONE)", PromiseEdgeTest::shareOfPrices);
        promise(16, "UNKNOWN", PromiseEdgeTest::shareUnknown);
        promise(16, "NONE: there is no BEST", PromiseEdgeTest::shareNone);
    }

    private static void questions() {
        promise(17, "(at first 0; it may be BARRED): what it was", PromiseEdgeTest::askWas);
        promise(17, "UNKNOWN: no such CHOICE, VALUE", PromiseEdgeTest::askUnknown);
        promise(18, "NONE", PromiseEdgeTest::answerNone);
        promise(18, "UNKNOWN", PromiseEdgeTest::answerUnknown);
        promise(19, "of those with the least PRICE the first by order", PromiseEdgeTest::unitFirstByOrder);
        promise(19, "UNKNOWN: no such PART, FUTURE, LOCAL", PromiseEdgeTest::unitUnknown);
        promise(19, "NONE: THE ANSWER is", PromiseEdgeTest::unitNone);
        promise(20, "3 NUMBER (NONE of a BAR)", PromiseEdgeTest::cutNumber);
        promise(20, "4 how many REASONS", PromiseEdgeTest::cutReasons);
        promise(20, "5 the ROUND (from 0 on) by which it came", PromiseEdgeTest::cutRound);
        promise(20, "6 whether the VALUES that are asked for MEET it", PromiseEdgeTest::cutMet);
        promise(20, "UNKNOWN", PromiseEdgeTest::cutUnknown);
        promise(20, "OUTSIDE", PromiseEdgeTest::cutOutside);
        promise(21, "10 times the CHOICE, and the VALUE", PromiseEdgeTest::reasonOfLastChoice);
        promise(21, "UNKNOWN: no such CUT", PromiseEdgeTest::reasonUnknown);
        promise(21, "NONE: no such REASON", PromiseEdgeTest::reasonNone);
        promise(22, "(by trying all)", PromiseEdgeTest::judgeTriesAll);
        promise(22, "NONE", PromiseEdgeTest::judgeNone);
    }

    // ---- promise 1

    private static void noChoices() {
        SplitRounds x = new SplitRounds();
        due("told(5)", x.told(5), 0);
        for (int n : Sentences.unknown(0)) {
            due("price(" + n + ", 0, 0)", x.price(n, 0, 0), UNKNOWN);
            due("ask(" + n + ", 0)", x.ask(n, 0), UNKNOWN);
            due("best(" + n + ")", x.best(n), UNKNOWN);
            due("master(" + n + ")", x.master(n), UNKNOWN);
        }
    }

    private static void noParts() {
        SplitRounds x = new SplitRounds();
        due("told(6)", x.told(6), 0);
        for (int n : Sentences.unknown(0)) {
            due("local(" + n + ", 1, 1)", x.local(n, 1, 1), UNKNOWN);
            due("row(" + n + ", 0)", x.row(n, 0), UNKNOWN);
            due("answer(" + n + ", 0)", x.answer(n, 0), UNKNOWN);
        }
        due("no cuts", x.told(1), 0);
    }

    private static void oneFuture() {
        SplitRounds x = new SplitRounds();
        due("told(7)", x.told(7), 1);
        due("future 0 has 1", x.weight(0, 1), 1);
        due("no future 1", x.weight(1, 1), UNKNOWN);
    }

    // ---- promise 2

    private static void choiceHasItsValues() {
        SplitRounds x = new SplitRounds();
        int[] sizes = {2, 3, 4};
        for (int c = 0; c < sizes.length; c++) {
            due("choice(" + sizes[c] + ")", x.choice(sizes[c]), c);
            due("its last value", x.ask(c, sizes[c] - 1), 0);
            due("one behind it", x.ask(c, sizes[c]), UNKNOWN);
        }
    }

    private static void choiceOutside() {
        SplitRounds x = new SplitRounds();
        for (int n : Sentences.outside(2, 4)) {
            due("choice(" + n + ")", x.choice(n), OUTSIDE);
        }
        for (int n : new int[] {0, NONE, -2}) {
            due("choice(" + n + ")", x.choice(n), OUTSIDE);
        }
        due("none came", x.told(5), 0);
    }

    private static void choiceRoom() {
        SplitRounds x = new SplitRounds();
        for (int c = 0; c < 6; c++) {
            due("choice " + c, x.choice(2), c);
        }
        for (int n = 2; n <= 4; n++) {
            due("the seventh with " + n, x.choice(n), ROOM);
        }
        due("OUTSIDE counts first", x.choice(1), OUTSIDE);
        due("told(5)", x.told(5), 6);
    }

    // ---- promise 3

    private static void priceOfFirstAndLastValue() {
        SplitRounds x = new SplitRounds();
        for (int c = 0; c < 6; c++) {
            x.choice(4);
        }
        for (int c = 0; c < 6; c++) {
            for (int v = 0; v < 4; v++) {
                due("price", x.price(c, v, 10 * (c + 1) + (v == 3 ? 0 : 5)), 1);
            }
        }
        due("the last value of each is the least", x.judge(), 210);
        due("price(5, 0, 0)", x.price(5, 0, 0), 1);
        due("the first value of the last choice", x.judge(), 150);
        due("price(0, 0, 0)", x.price(0, 0, 0), 1);
        due("the first value of the first choice", x.judge(), 140);
    }

    private static void priceBarred() {
        SplitRounds x = new SplitRounds();
        x.choice(2);
        due("price(0, 0, NONE)", x.price(0, 0, NONE), 1);
        x.run(50);
        due("best(0)", x.best(0), 1);
        due("again", x.price(0, 0, NONE), 1);
        due("the last value, too", x.price(0, 1, NONE), 1);
        due("no plan is left", x.run(50), 0);
        due("a price again", x.price(0, 0, 200), 1);
        due("run(50)", x.run(50), 1);
        due("told(3)", x.told(3), 200);
    }

    private static void priceUnknown() {
        SplitRounds x = new SplitRounds();
        x.choice(2);
        x.choice(4);
        for (int n : Sentences.unknown(2)) {
            due("price(" + n + ", 0, 5)", x.price(n, 0, 5), UNKNOWN);
            due("price(0, " + n + ", 5)", x.price(0, n, 5), UNKNOWN);
            due("price(" + n + ", " + n + ", NONE)", x.price(n, n, NONE), UNKNOWN);
            due("counts ahead of OUTSIDE: choice " + n, x.price(n, 0, 201), UNKNOWN);
            due("counts ahead of OUTSIDE: value " + n, x.price(0, n, -1), UNKNOWN);
        }
        due("price(1, 3, 5)", x.price(1, 3, 5), 1);
        due("price(1, 4, 5)", x.price(1, 4, 5), UNKNOWN);
        due("nothing costs anything", x.judge(), 0);
    }

    private static void priceOutside() {
        SplitRounds x = new SplitRounds();
        x.choice(2);
        x.price(0, 1, NONE);
        for (int price : Sentences.outside(0, 200)) {
            due("price(0, 0, " + price + ")", x.price(0, 0, price), OUTSIDE);
        }
        for (int price : new int[] {UNKNOWN, OUTSIDE, ROOM, -5}) {
            due("price(0, 0, " + price + ")", x.price(0, 0, price), OUTSIDE);
            due("of a barred value", x.price(0, 1, price), OUTSIDE);
        }
        due("it is still 0", x.judge(), 0);
        x.price(0, 0, NONE);
        due("the other is still barred", x.judge(), NONE);
    }

    // ---- promises 4, 5

    private static void futureMore() {
        SplitRounds x = Plans.shop();
        for (int f = 1; f < 4; f++) {
            due("answer ahead of it", x.answer(0, f), UNKNOWN);
            due("future", x.future(f), f);
            due("its answer, without shifts", x.answer(0, f), 20);
            due("its shift", x.shift(f, 0, 0, 1), 0);
            due("its weight", x.weight(f, f), f);
        }
    }

    private static void futureOutside() {
        SplitRounds x = new SplitRounds();
        for (int w : Sentences.outside(1, 20)) {
            due("future(" + w + ")", x.future(w), OUTSIDE);
        }
        due("told(7)", x.told(7), 1);
        due("future(1)", x.future(1), 1);
        due("future(20)", x.future(20), 2);
        due("told(4)", x.told(4), 22);
    }

    private static void futureRoom() {
        SplitRounds x = new SplitRounds();
        for (int f = 1; f < 4; f++) {
            due("future " + f, x.future(2), f);
        }
        due("the fifth", x.future(1), ROOM);
        due("the fifth", x.future(20), ROOM);
        due("OUTSIDE counts first", x.future(0), OUTSIDE);
        due("OUTSIDE counts first", x.future(21), OUTSIDE);
        due("told(7)", x.told(7), 4);
        due("told(4)", x.told(4), 7);
    }

    private static void weightWas() {
        SplitRounds x = new SplitRounds();
        x.future(7);
        due("weight(0, 20)", x.weight(0, 20), 1);
        due("weight(0, 1)", x.weight(0, 1), 20);
        due("weight(1, 1)", x.weight(1, 1), 7);
        due("weight(1, 1) as it was", x.weight(1, 1), 1);
        due("told(4)", x.told(4), 2);
    }

    private static void weightUnknown() {
        SplitRounds x = new SplitRounds();
        x.future(3);
        for (int f : Sentences.unknown(2)) {
            due("weight(" + f + ", 5)", x.weight(f, 5), UNKNOWN);
            due("counts ahead of OUTSIDE", x.weight(f, 21), UNKNOWN);
        }
        due("told(4)", x.told(4), 4);
    }

    private static void weightOutside() {
        SplitRounds x = new SplitRounds();
        x.future(3);
        for (int w : Sentences.outside(1, 20)) {
            due("weight(0, " + w + ")", x.weight(0, w), OUTSIDE);
            due("weight(1, " + w + ")", x.weight(1, w), OUTSIDE);
        }
        due("told(4)", x.told(4), 4);
    }

    // ---- promises 6 to 9

    private static void partRoom() {
        SplitRounds x = new SplitRounds();
        for (int p = 0; p < 4; p++) {
            due("part " + p, x.part(), p);
        }
        due("the fifth", x.part(), ROOM);
        due("again", x.part(), ROOM);
        due("told(6)", x.told(6), 4);
        due("no part 4", x.answer(4, 0), UNKNOWN);
    }

    private static void joinCounts() {
        SplitRounds x = Plans.fullTown();
        SplitRounds y = new SplitRounds();
        for (int c = 0; c < 6; c++) {
            y.choice(2);
        }
        y.part();
        y.part();
        due("join(1, 5)", y.join(1, 5), 1);
        due("join(1, 0)", y.join(1, 0), 2);
        due("join(0, 5), another part", y.join(0, 5), 1);
        due("join(1, 4)", y.join(1, 4), 3);
        due("a full part", x.join(0, 1), ROOM);
    }

    private static void joinUnknown() {
        SplitRounds x = Plans.town();
        for (int n : Sentences.unknown(2)) {
            due("join(" + n + ", 0)", x.join(n, 0), UNKNOWN);
            due("join(0, " + n + ")", x.join(0, n), UNKNOWN);
            due("join(" + n + ", " + n + ")", x.join(n, n), UNKNOWN);
        }
        SplitRounds full = Plans.fullTown();
        due("counts ahead of ROOM: choice", full.join(0, 6), UNKNOWN);
        due("counts ahead of ROOM: part", full.join(4, 1), UNKNOWN);
        due("counts ahead of NONE", full.join(4, 0), UNKNOWN);
    }

    private static void joinAlready() {
        SplitRounds x = Plans.town();
        due("join(0, 0)", x.join(0, 0), NONE);
        due("join(1, 1)", x.join(1, 1), NONE);
        due("join(0, 1)", x.join(0, 1), 2);
        due("join(0, 1)", x.join(0, 1), NONE);
        SplitRounds full = Plans.fullTown();
        for (int c = 0; c < 6; c += 2) {
            due("counts ahead of ROOM", full.join(0, c), NONE);
        }
    }

    private static void joinRoom() {
        SplitRounds x = new SplitRounds();
        for (int c = 0; c < 6; c++) {
            x.choice(4);
        }
        x.part();
        x.part();
        for (int c = 0; c < 3; c++) {
            due("join(0, " + c + ")", x.join(0, c), c + 1);
        }
        for (int c = 3; c < 6; c++) {
            due("join(0, " + c + ")", x.join(0, c), ROOM);
        }
        due("another part has room", x.join(1, 3), 1);
    }

    private static void localNumbers() {
        SplitRounds x = new SplitRounds();
        x.part();
        x.part();
        due("local(0, 1, 0)", x.local(0, 1, 0), 0);
        due("local(1, 3, 50)", x.local(1, 3, 50), 0);
        due("local(0, 3, 50)", x.local(0, 3, 50), 1);
        due("local(0, 2, 0)", x.local(0, 2, 0), 2);
        due("local(1, 2, 0)", x.local(1, 2, 0), 1);
    }

    private static void localUnknown() {
        SplitRounds x = Plans.town();
        for (int p : Sentences.unknown(2)) {
            due("local(" + p + ", 1, 1)", x.local(p, 1, 1), UNKNOWN);
            due("counts ahead of OUTSIDE: top", x.local(p, 0, 1), UNKNOWN);
            due("counts ahead of OUTSIDE: price", x.local(p, 1, 51), UNKNOWN);
        }
        due("counts ahead of ROOM", Plans.fullTown().local(4, 1, 1), UNKNOWN);
    }

    private static void localOutside() {
        SplitRounds x = Plans.town();
        for (int top : Sentences.outside(1, 3)) {
            due("local(0, " + top + ", 1)", x.local(0, top, 1), OUTSIDE);
        }
        for (int price : Sentences.outside(0, 50)) {
            due("local(0, 1, " + price + ")", x.local(0, 1, price), OUTSIDE);
        }
        due("barred is no price of a local", x.local(0, 1, NONE), OUTSIDE);
        due("both", x.local(0, 4, 51), OUTSIDE);
        SplitRounds full = Plans.fullTown();
        due("counts ahead of ROOM: top", full.local(0, 4, 1), OUTSIDE);
        due("counts ahead of ROOM: price", full.local(0, 1, 51), OUTSIDE);
        due("none came", x.local(0, 1, 50), 1);
    }

    private static void localRoom() {
        SplitRounds x = new SplitRounds();
        x.part();
        x.part();
        for (int i = 0; i < 4; i++) {
            due("local " + i, x.local(0, 1, 1), i);
        }
        due("the fifth", x.local(0, 1, 1), ROOM);
        due("the fifth", x.local(0, 3, 0), ROOM);
        due("another part has room", x.local(1, 1, 1), 0);
        due("no local 4", x.unit(0, 0, 4), UNKNOWN);
    }

    private static void rowWithoutWeighings() {
        SplitRounds x = Plans.town();
        due("row(0, 0)", x.row(0, 0), 1);
        due("0 is at most 0", x.answer(0, 0), 20);
        due("its weighing of a local", x.weigh(0, 1, false, 0, 0), 0);
        due("its weighing of a choice", x.weigh(0, 1, true, 0, 0), 0);
        due("its shift", x.shift(0, 0, 1, 0), 0);
        due("row(0, -1)", x.row(0, -1), 2);
        due("0 is not at most -1", x.answer(0, 0), NONE);
    }

    private static void rowNumbers() {
        SplitRounds x = new SplitRounds();
        x.part();
        x.part();
        due("row(0, 99)", x.row(0, 99), 0);
        due("row(1, -99)", x.row(1, -99), 0);
        due("row(0, -99)", x.row(0, -99), 1);
        due("row(0, 0)", x.row(0, 0), 2);
        due("row(1, 0)", x.row(1, 0), 1);
    }

    private static void rowUnknown() {
        SplitRounds x = Plans.town();
        for (int p : Sentences.unknown(2)) {
            due("row(" + p + ", 0)", x.row(p, 0), UNKNOWN);
            due("counts ahead of OUTSIDE", x.row(p, 100), UNKNOWN);
        }
        due("counts ahead of ROOM", Plans.fullTown().row(4, 0), UNKNOWN);
    }

    private static void rowOutside() {
        SplitRounds x = Plans.town();
        for (int limit : Sentences.outside(-99, 99)) {
            due("row(0, " + limit + ")", x.row(0, limit), OUTSIDE);
        }
        SplitRounds full = Plans.fullTown();
        due("counts ahead of ROOM", full.row(0, 100), OUTSIDE);
        due("counts ahead of ROOM", full.row(0, -100), OUTSIDE);
        due("none came", x.row(0, 99), 1);
    }

    private static void rowRoom() {
        SplitRounds x = new SplitRounds();
        x.part();
        x.part();
        for (int r = 0; r < 6; r++) {
            due("row " + r, x.row(0, 0), r);
        }
        due("the seventh", x.row(0, 0), ROOM);
        due("a row that can't hold", x.row(0, -99), ROOM);
        due("it did not come", x.answer(0, 0), 0);
        due("another part has room", x.row(1, 0), 0);
        due("no row 6", x.shift(0, 0, 6, 0), UNKNOWN);
    }

    // ---- promises 10, 11

    /** The last choice and the last local of a full part, and the first ones. */
    private static void weighByOwnNumber() {
        SplitRounds x = Plans.fullTown();
        for (int r = 0; r < 6; r += 5) {
            due("local 3 in row " + r, x.weigh(0, r, false, 3, 1), 0);
            due("choice 0 in row " + r, x.weigh(0, r, true, 0, 2), 0);
            due("choice 4 in row " + r, x.weigh(0, r, true, 4, 3), 0);
            due("local 0 in row " + r, x.weigh(0, r, false, 0, 4), 0);
        }
        for (int r = 0; r < 6; r += 5) {
            due("local 3 was", x.weigh(0, r, false, 3, 0), 1);
            due("choice 0 was", x.weigh(0, r, true, 0, 0), 2);
            due("choice 4 was", x.weigh(0, r, true, 4, 0), 3);
            due("local 0 was", x.weigh(0, r, false, 0, 0), 4);
        }
        due("part 3 is joined to choice 5", x.weigh(3, 5, true, 5, 9), 0);
        due("part 1, too", x.weigh(1, 5, true, 5, 9), 0);
    }

    private static void weighWas() {
        SplitRounds x = Plans.town();
        due("to 9", x.weigh(0, 0, false, 0, 9), -1);
        due("to -9", x.weigh(0, 0, false, 0, -9), 9);
        due("as it was", x.weigh(0, 0, false, 0, -9), -9);
        due("a choice to 9", x.weigh(0, 0, true, 0, 9), -1);
        due("a choice to -9", x.weigh(0, 0, true, 0, -9), 9);
        due("to 0", x.weigh(0, 0, true, 0, 0), -9);
    }

    private static void weighUnknown() {
        SplitRounds x = Plans.town();
        for (int n : Sentences.unknown(2)) {
            due("part " + n, x.weigh(n, 0, false, 0, 1), UNKNOWN);
            due("part " + n, x.weigh(n, 0, true, 0, 1), UNKNOWN);
            due("choice " + n, x.weigh(0, 0, true, n, 1), UNKNOWN);
            due("counts ahead of OUTSIDE: part", x.weigh(n, 0, false, 0, 10), UNKNOWN);
            due("counts ahead of OUTSIDE: choice", x.weigh(0, 0, true, n, -10), UNKNOWN);
        }
        for (int n : Sentences.unknown(1)) {
            due("row " + n, x.weigh(0, n, false, 0, 1), UNKNOWN);
            due("row " + n, x.weigh(0, n, true, 0, 1), UNKNOWN);
            due("local " + n, x.weigh(0, 0, false, n, 1), UNKNOWN);
            due("counts ahead of OUTSIDE: row", x.weigh(0, n, false, 0, 10), UNKNOWN);
            due("counts ahead of OUTSIDE: local", x.weigh(0, 0, false, n, -10), UNKNOWN);
        }
        due("a choice that it is not joined to", x.weigh(0, 0, true, 1, 1), UNKNOWN);
        due("a choice that it is not joined to", x.weigh(1, 0, true, 0, 1), UNKNOWN);
        due("counts ahead of OUTSIDE: not joined", x.weigh(1, 0, true, 0, 10), UNKNOWN);
        due("a local of the other part", x.local(1, 1, 1), 1);
        due("is none of this", x.weigh(0, 0, false, 1, 1), UNKNOWN);
    }

    private static void weighOutside() {
        SplitRounds x = Plans.town();
        for (int v : Sentences.outside(-9, 9)) {
            due("of a local", x.weigh(0, 0, false, 0, v), OUTSIDE);
            due("of a choice", x.weigh(0, 0, true, 0, v), OUTSIDE);
        }
        due("of a local it was", x.weigh(0, 0, false, 0, 0), -1);
        due("of a choice it was", x.weigh(0, 0, true, 0, 0), -1);
    }

    private static void shiftWas() {
        SplitRounds x = Plans.fullTown();
        for (int f = 0; f < 4; f += 3) {
            for (int r = 0; r < 6; r += 5) {
                due("0 at first", x.shift(f, 3, r, 99), 0);
                due("99", x.shift(f, 3, r, -99), 99);
                due("-99", x.shift(f, 3, r, f + r), -99);
            }
        }
        due("future 0, row 0", x.shift(0, 3, 0, 0), 0);
        due("future 0, row 5", x.shift(0, 3, 5, 0), 5);
        due("future 3, row 0", x.shift(3, 3, 0, 0), 3);
        due("future 3, row 5", x.shift(3, 3, 5, 0), 8);
        due("another future", x.shift(1, 3, 5, 0), 0);
        due("another part", x.shift(3, 2, 5, 0), 0);
    }

    private static void shiftUnknown() {
        SplitRounds x = Plans.town();
        for (int n : Sentences.unknown(2)) {
            due("future " + n, x.shift(n, 0, 0, 1), UNKNOWN);
            due("part " + n, x.shift(0, n, 0, 1), UNKNOWN);
            due("row " + n, x.shift(0, 0, n, 1), UNKNOWN);
            due("counts ahead of OUTSIDE: future", x.shift(n, 0, 0, 100), UNKNOWN);
            due("counts ahead of OUTSIDE: part", x.shift(0, n, 0, -100), UNKNOWN);
            due("counts ahead of OUTSIDE: row", x.shift(0, 0, n, 100), UNKNOWN);
        }
        due("row 1", x.shift(0, 0, 1, 1), UNKNOWN);
    }

    private static void shiftOutside() {
        SplitRounds x = Plans.town();
        for (int v : Sentences.outside(-99, 99)) {
            due("shift(1, 0, 0, " + v + ")", x.shift(1, 0, 0, v), OUTSIDE);
        }
        due("it was", x.shift(1, 0, 0, 99), -1);
        due("it was", x.shift(1, 0, 0, -99), 99);
    }

    // ---- promise 12

    private static void runAtMost() {
        SplitRounds x = Plans.staircase(1);
        due("run(1)", x.run(1), 2);
        due("one round", x.told(0), 1);
        due("run(50)", x.run(50), 2);
        due("50 rounds more", x.told(0), 51);
        due("run(12)", x.run(12), 2);
        due("the last but one", x.told(0), 63);
        due("run(50)", x.run(50), 1);
        due("no more than till the end", x.told(0), 64);
        SplitRounds y = Plans.staircase(1);
        y.run(50);
        due("just as many as are left: run(14)", y.run(14), 1);
        due("told(0)", y.told(0), 64);
    }

    private static void runProves() {
        SplitRounds x = Plans.town();
        due("run(50)", x.run(50), 1);
        due("the best is what the judge finds", x.told(3), x.judge());
        due("told(3)", x.told(3), 122);
        due("the lower is the upper", x.told(2), 122);
        due("best(0)", x.best(0), 2);
        due("best(1)", x.best(1), 1);
    }

    private static void runImpossible() {
        SplitRounds x = Plans.hopeless();
        due("a bar comes", x.run(1), 2);
        due("and no plan is left", x.run(1), 0);
        SplitRounds y = Plans.hopeless();
        due("run(50)", y.run(50), 0);
        due("told(0)", y.told(0), 2);
    }

    private static void runOpen() {
        SplitRounds x = Plans.town();
        due("with a best", x.run(1), 2);
        due("told(8)", x.told(8), 0);
        due("without a best", Plans.hopeless().run(1), 2);
    }

    private static void runAtTheEnd() {
        SplitRounds x = Plans.town();
        x.run(50);
        String seen = Seen.all(x);
        due("run(1)", x.run(1), 1);
        due("run(50)", x.run(50), 1);
        Sentences.same("at a proved end", Seen.all(x), seen);
        SplitRounds y = Plans.hopeless();
        y.run(50);
        seen = Seen.all(y);
        due("run(1)", y.run(1), 0);
        due("run(50)", y.run(50), 0);
        Sentences.same("where nothing is possible", Seen.all(y), seen);
    }

    private static void runOutside() {
        SplitRounds x = Plans.town();
        for (int n : Sentences.outside(1, 50)) {
            due("run(" + n + ")", x.run(n), OUTSIDE);
        }
        due("no round", x.told(0), 0);
        x.run(50);
        due("at the end, too", x.run(51), OUTSIDE);
        due("at the end, too", x.run(0), OUTSIDE);
    }

    private static void runOfNothing() {
        SplitRounds x = new SplitRounds();
        due("run(1)", x.run(1), 1);
        due("told(0)", x.told(0), 1);
        due("it costs nothing", x.told(3), 0);
        due("best(0)", x.best(0), UNKNOWN);
        due("share(NONE)", x.share(NONE), 0);
        x.part();
        x.row(0, -1);
        due("a part's bar is met by it", x.run(50), 0);
        due("told(1)", x.told(1), 1);
        due("it has no reasons", x.cut(0, 4), 0);
    }

    // ---- promise 13

    private static void toldRoundsAndCuts() {
        SplitRounds x = Plans.town();
        due("no rounds", x.told(0), 0);
        due("no cuts", x.told(1), 0);
        x.run(1);
        due("one round", x.told(0), 1);
        due("a cut of each part in each future", x.told(1), 4);
    }

    private static void toldLower() {
        SplitRounds x = Plans.hopeless();
        due("no round", x.told(2), NONE);
        x.run(1);
        due("a master", x.told(2), 0);
        x.run(1);
        due("no master in the latest", x.told(2), NONE);
        x.price(0, 0, 5);
        due("no round any more", x.told(2), NONE);
    }

    private static void toldUpper() {
        SplitRounds x = Plans.town();
        due("no best yet", x.told(3), NONE);
        x.run(1);
        due("a best", x.told(3), 206);
        SplitRounds y = Plans.hopeless();
        y.run(1);
        due("a master that is not possible", y.told(3), NONE);
        y.run(1);
        due("no master", y.told(3), NONE);
    }

    private static void toldCounts() {
        int[] none = {1, 0, 0, 1};
        int[] most = {61, 6, 4, 4};
        for (int i = 0; i < 4; i++) {
            due("of a new object", new SplitRounds().told(4 + i), none[i]);
            due("of a full one", Plans.fullTown().told(4 + i), most[i]);
        }
        SplitRounds x = Plans.fullTown();
        x.weight(0, 20);
        due("the greatest W", x.told(4), 80);
    }

    private static void toldEnd() {
        SplitRounds x = Plans.town();
        due("no round", x.told(8), 0);
        x.run(1);
        due("none yet", x.told(8), 0);
        x.run(50);
        due("the best", x.told(8), 1);
        SplitRounds y = Plans.hopeless();
        y.run(1);
        due("none yet", y.told(8), 0);
        y.run(1);
        due("nothing is possible", y.told(8), 2);
    }

    private static void toldOutside() {
        SplitRounds x = Plans.town();
        for (int what : Sentences.outside(0, 8)) {
            due("told(" + what + ")", x.told(what), OUTSIDE);
        }
        due("told(NONE)", x.told(NONE), OUTSIDE);
    }

    // ---- promises 14 to 16

    private static void bestUnknown() {
        SplitRounds x = Plans.town();
        for (int c : Sentences.unknown(2)) {
            due("without a best: best(" + c + ")", x.best(c), UNKNOWN);
        }
        x.run(50);
        for (int c : Sentences.unknown(2)) {
            due("with a best: best(" + c + ")", x.best(c), UNKNOWN);
        }
    }

    private static void bestNone() {
        SplitRounds x = Plans.hopeless();
        due("no round", x.best(0), NONE);
        x.run(1);
        due("a master that is not possible", x.best(0), NONE);
        x.run(1);
        due("nothing is possible", x.best(0), NONE);
        SplitRounds y = Plans.town();
        y.run(50);
        due("there is one", y.best(0), 2);
        y.weight(0, 1);
        due("none any more", y.best(0), NONE);
    }

    /** Round by round the master is 0, 1, 2, 3, while the best stays at 0, which is as good. */
    private static void masterOfTheLatest() {
        SplitRounds x = new SplitRounds();
        x.choice(4);
        x.part();
        x.join(0, 0);
        x.local(0, 3, 5);
        x.row(0, -3);
        x.weigh(0, 0, false, 0, -1);
        x.weigh(0, 0, true, 0, -1);
        for (int v = 0; v < 4; v++) {
            x.price(0, v, 5 * v);
        }
        for (int v = 0; v < 3; v++) {
            due("run(1)", x.run(1), 2);
            due("master(0)", x.master(0), v);
            due("best(0)", x.best(0), 0);
        }
        due("all cost 15", x.run(50), 1);
        due("told(2)", x.told(2), 15);
    }

    private static void masterUnknown() {
        SplitRounds x = Plans.town();
        for (int c : Sentences.unknown(2)) {
            due("without a master: master(" + c + ")", x.master(c), UNKNOWN);
        }
        x.run(1);
        for (int c : Sentences.unknown(2)) {
            due("with a master: master(" + c + ")", x.master(c), UNKNOWN);
        }
    }

    private static void masterNone() {
        SplitRounds x = Plans.hopeless();
        due("no round", x.master(0), NONE);
        x.run(1);
        due("there is one, though not possible", x.master(0), 0);
        x.run(1);
        due("none in the latest round", x.master(0), NONE);
    }

    private static void shareOfPrices() {
        SplitRounds x = Plans.town();
        x.run(50);
        due("share(NONE), W times the prices", x.share(NONE), 72);
        due("share(0)", x.share(0), 50);
        due("share(1)", x.share(1), 0);
        due("all together", x.share(NONE) + x.share(0) + x.share(1), x.told(3));
    }

    private static void shareUnknown() {
        SplitRounds x = Plans.town();
        for (int p : Sentences.unknown(2)) {
            due("without a best: share(" + p + ")", x.share(p), p == NONE ? NONE : UNKNOWN);
        }
        x.run(50);
        for (int p : Sentences.unknown(2)) {
            due("with a best: share(" + p + ")", x.share(p), p == NONE ? 72 : UNKNOWN);
        }
    }

    private static void shareNone() {
        SplitRounds x = Plans.hopeless();
        for (int i = 0; i < 3; i++) {
            due("share(0)", x.share(0), NONE);
            due("share(NONE)", x.share(NONE), NONE);
            x.run(1);
        }
    }

    // ---- promises 17 to 19

    private static void askWas() {
        SplitRounds x = Plans.fullTown();
        for (int c = 0; c < 6; c += 5) {
            due("at first 0", x.ask(c, 3), 0);
            due("as it was", x.ask(c, 3), 3);
            x.price(c, 0, NONE);
            due("a barred one", x.ask(c, 0), 3);
            due("back", x.ask(c, 3), 0);
        }
        due("of another choice 0", x.ask(1, 1), 0);
        due("a choice more", Plans.town().ask(1, 1), 0);
    }

    private static void askUnknown() {
        SplitRounds x = Plans.town();
        x.ask(0, 2);
        x.ask(1, 1);
        for (int n : Sentences.unknown(2)) {
            due("ask(" + n + ", 0)", x.ask(n, 0), UNKNOWN);
            due("ask(1, " + n + ")", x.ask(1, n), UNKNOWN);
        }
        due("value 3 of three", x.ask(0, 3), UNKNOWN);
        due("it was", x.ask(0, 0), 2);
        due("it was", x.ask(1, 0), 1);
    }

    private static void answerNone() {
        SplitRounds x = Plans.hopeless();
        due("to 0", x.answer(0, 0), NONE);
        x.ask(0, 1);
        due("to 1", x.answer(0, 0), NONE);
        x.shift(0, 0, 0, 1);
        due("it holds now", x.answer(0, 0), 0);
        x.ask(0, 0);
        due("to 0 it does not", x.answer(0, 0), NONE);
    }

    private static void answerUnknown() {
        SplitRounds x = Plans.town();
        for (int n : Sentences.unknown(2)) {
            due("answer(" + n + ", 0)", x.answer(n, 0), UNKNOWN);
            due("answer(0, " + n + ")", x.answer(0, n), UNKNOWN);
            due("answer(" + n + ", " + n + ")", x.answer(n, n), UNKNOWN);
        }
    }

    private static void unitFirstByOrder() {
        SplitRounds x = new SplitRounds();
        x.part();
        for (int i = 0; i < 4; i++) {
            x.local(0, 3, 1);
        }
        x.row(0, -4);
        int[][] units = {{0, 0, 1, 3}, {3, 3, 3, 3}, {0, 0, 0, 0}, {0, 0, 0, 3}, {0, 1, 3, 3}};
        int[] shifts = {0, -8, 4, 1, -3};
        for (int i = 0; i < 4; i++) {
            x.weigh(0, 0, false, i, -1);
        }
        for (int k = 0; k < units.length; k++) {
            x.shift(0, 0, 0, shifts[k]);
            for (int i = 0; i < 4; i++) {
                due((4 - shifts[k]) + " units: unit " + i, x.unit(0, 0, i), units[k][i]);
            }
        }
    }

    private static void unitUnknown() {
        SplitRounds x = Plans.town();
        for (int n : Sentences.unknown(2)) {
            due("unit(" + n + ", 0, 0)", x.unit(n, 0, 0), UNKNOWN);
            due("unit(0, " + n + ", 0)", x.unit(0, n, 0), UNKNOWN);
            due("unit(0, 0, " + n + ")", x.unit(0, 0, n), UNKNOWN);
        }
        due("unit(0, 0, 1)", x.unit(0, 0, 1), UNKNOWN);
        x.shift(0, 0, 0, -99);
        due("counts ahead of NONE", x.unit(0, 0, 1), UNKNOWN);
        due("a part without locals", Plans.hopeless().unit(0, 0, 0), UNKNOWN);
    }

    private static void unitNone() {
        SplitRounds x = Plans.town();
        due("three units", x.unit(0, 1, 0), 3);
        x.shift(1, 0, 0, -2);
        due("four are too many", x.unit(0, 1, 0), NONE);
        due("in the other future", x.unit(0, 0, 0), 2);
        x.ask(0, 1);
        due("one less is needed", x.unit(0, 1, 0), 3);
    }

    // ---- promises 20 to 22

    private static void cutNumber() {
        SplitRounds x = Plans.town();
        x.shift(1, 0, 0, -2);
        x.run(1);
        due("a bound", x.cut(0, 0), 1);
        due("its number", x.cut(0, 3), 20);
        due("a bar", x.cut(1, 0), 0);
        due("its number", x.cut(1, 3), NONE);
    }

    private static void cutReasons() {
        SplitRounds x = Plans.hopeless();
        x.run(1);
        due("none", x.cut(0, 4), 0);
        SplitRounds y = Plans.staircase(1);
        y.run(1);
        due("three", y.cut(0, 4), 3);
        y.run(3);
        due("two", y.cut(3, 4), 2);
    }

    private static void cutRound() {
        SplitRounds x = Plans.staircase(1);
        x.run(50);
        for (int k = 0; k < 50; k += 7) {
            due("cut(" + k + ", 5)", x.cut(k, 5), k);
        }
        due("cut(49, 5)", x.cut(49, 5), 49);
        x.price(0, 3, 0);
        due("rounds are counted anew, the cut stays", x.cut(49, 5), 49);
        x.run(1);
        due("the next comes in round 0", x.cut(50, 5), 0);
    }

    private static void cutMet() {
        SplitRounds x = Plans.staircase(1);
        x.run(1);
        due("all values are asked for", x.cut(0, 6), 1);
        for (int c = 0; c < 3; c++) {
            x.ask(c, 3);
            due("choice " + c + " has another", x.cut(0, 6), 0);
            x.ask(c, 0);
        }
        due("all again", x.cut(0, 6), 1);
        SplitRounds y = Plans.hopeless();
        y.run(1);
        y.ask(0, 1);
        due("without reasons", y.cut(0, 6), 1);
    }

    private static void cutUnknown() {
        SplitRounds x = Plans.town();
        due("no cuts", x.cut(0, 0), UNKNOWN);
        x.run(1);
        for (int k : Sentences.unknown(4)) {
            due("cut(" + k + ", 0)", x.cut(k, 0), UNKNOWN);
            due("counts ahead of OUTSIDE", x.cut(k, 7), UNKNOWN);
        }
        due("one behind the last of 200", crowded().cut(200, 0), UNKNOWN);
        due("the last of 200", crowded().cut(199, 0), 1);
    }

    private static SplitRounds crowded() {
        SplitRounds x = Plans.crowd();
        x.run(50);
        return x;
    }

    private static void cutOutside() {
        SplitRounds x = Plans.town();
        x.run(1);
        for (int what : Sentences.outside(0, 6)) {
            due("cut(0, " + what + ")", x.cut(0, what), OUTSIDE);
        }
        due("cut(3, NONE)", x.cut(3, NONE), OUTSIDE);
    }

    private static void reasonOfLastChoice() {
        SplitRounds x = Plans.fullTown();
        x.weigh(3, 1, true, 5, 9);
        x.shift(3, 3, 1, -73);
        x.price(5, 0, NONE);
        x.price(5, 1, NONE);
        x.price(5, 2, NONE);
        x.run(1);
        due("part 3", x.cut(0, 1), 3);
        due("future 3", x.cut(0, 2), 3);
        due("reason(0, 0)", x.reason(0, 0), 53);
        due("reason(0, 1)", x.reason(0, 1), NONE);
    }

    private static void reasonUnknown() {
        SplitRounds x = Plans.town();
        due("no cuts", x.reason(0, 0), UNKNOWN);
        x.run(1);
        for (int k : Sentences.unknown(4)) {
            due("reason(" + k + ", 0)", x.reason(k, 0), UNKNOWN);
            due("counts ahead of NONE", x.reason(k, 3), UNKNOWN);
            due("counts ahead of NONE", x.reason(k, -1), UNKNOWN);
        }
        due("one behind the last of 200", crowded().reason(200, 0), UNKNOWN);
    }

    private static void reasonNone() {
        SplitRounds x = Plans.staircase(1);
        x.run(4);
        for (int i : Sentences.unknown(3)) {
            due("of three: reason(0, " + i + ")", x.reason(0, i), NONE);
        }
        due("the third of three", x.reason(0, 2), 20);
        due("the third of two", x.reason(3, 2), NONE);
        SplitRounds y = Plans.hopeless();
        y.run(1);
        due("the first of none", y.reason(0, 0), NONE);
    }

    private static void judgeTriesAll() {
        SplitRounds x = Plans.staircase(4);
        due("the last plan by order", x.judge(), 0);
        due("without rounds", x.told(0), 0);
        due("without cuts", x.told(1), 0);
        x.price(2, 3, NONE);
        due("one of the others", x.judge(), 4);
        SplitRounds y = crowded();
        due("the rounds could not prove it", y.told(8), 0);
        due("the judge can", y.judge(), 0);
    }

    private static void judgeNone() {
        SplitRounds x = Plans.hopeless();
        due("no plan is possible", x.judge(), NONE);
        x.shift(0, 0, 0, 2);
        due("all are", x.judge(), 0);
        x.price(0, 0, NONE);
        x.price(0, 1, NONE);
        due("there is no plan", x.judge(), NONE);
    }
}
