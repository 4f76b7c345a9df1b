import java.util.function.Supplier;
import java.util.function.ToIntFunction;

/** Of 'What it is' and 'Terms': the edges that the sentences name, one test each. */
public final class TermsEdgeTest {
    private static final int UNKNOWN = -1, OUTSIDE = -2, ROOM = -3, NONE = -4;

    private TermsEdgeTest() {
    }

    private static void terms(String quote, Runnable test) {
        Sentences.test("Terms", quote, test);
    }

    private static void due(String call, int got, int want) {
        Sentences.due(call, got, want);
    }

    public static void main(String[] args) {
        Sentences.test("What it is", "at most 512 calls after it has been made", TermsEdgeTest::fiveHundredAndTwelveCalls);
        Sentences.test("The public face", "UNKNOWN = -1, OUTSIDE = -2, ROOM = -3, NONE = -4", TermsEdgeTest::constants);
        answersOfCalls();
        whatThereIs();
        cuts();
        rounds();
        Due.end();
    }

    private static void answersOfCalls() {
        terms("Of those that a comment names the first counts", TermsEdgeTest::firstCounts);
        terms("what is refused changes nothing", TermsEdgeTest::refusedByAnEmptyOne);
        terms("what is refused changes nothing", TermsEdgeTest::refusedByATown);
        terms("what is refused changes nothing", TermsEdgeTest::refusedByAFullTown);
        terms("from 0 on, in the order in which it came", TermsEdgeTest::numbersInOrder);
    }

    private static void whatThereIs() {
        terms("CHOICES (6 at most)", TermsEdgeTest::sixChoices);
        terms("VALUES 0 to n - 1 (n 2 to 4)", TermsEdgeTest::twoToFourValues);
        terms("a PRICE (0 to 200; 0 at first), or BARRED", TermsEdgeTest::pricesOfValues);
        terms("FUTURES (4 at most)", TermsEdgeTest::fourFutures);
        terms("a WEIGHT (1 to 20)", TermsEdgeTest::weights);
        terms("the first is there from the beginning, with 1", TermsEdgeTest::firstFuture);
        terms("W is the sum of WEIGHTS", TermsEdgeTest::sumOfWeights);
        terms("PARTS (4 at most)", TermsEdgeTest::fourParts);
        terms("JOINED to some CHOICES (3 at most)", TermsEdgeTest::threeJoined);
        terms("LOCALS (4 at most)", TermsEdgeTest::fourLocals);
        terms("numbers from 0 to a top (1 to 3)", TermsEdgeTest::tops);
        terms("a PRICE for each unit (0 to 50)", TermsEdgeTest::pricesOfUnits);
        terms("ROWS (6 at most)", TermsEdgeTest::sixRows);
        terms("WEIGHINGS (-9 to 9, 0 at first)", TermsEdgeTest::weighings);
        terms("is at most the LIMIT (-99 to 99)", TermsEdgeTest::limits);
        terms("in a FUTURE, its SHIFT (-99 to 99, 0 at first)", TermsEdgeTest::shifts);
        terms("the least PRICE of its LOCALS (all units) with which all ROWS hold", TermsEdgeTest::leastPrice);
        terms("NONE if there are no such LOCALS", TermsEdgeTest::noSuchLocals);
        terms("(without LOCALS it is 0 or NONE)", TermsEdgeTest::withoutLocals);
        terms("A PLAN is a VALUE, not BARRED, of each CHOICE", TermsEdgeTest::barredIsNoPlan);
        terms("It costs W times the PRICES of its VALUES, and for each FUTURE its WEIGHT times all ANSWERS",
                TermsEdgeTest::dearestPlan);
        terms("it is POSSIBLE, if no ANSWER is NONE", TermsEdgeTest::possibleInAllFutures);
        terms("the lesser VALUE at the first CHOICE that differs", TermsEdgeTest::planOrder);
    }

    private static void cuts() {
        terms("CUTS (200 at most) are of a PART and a FUTURE", TermsEdgeTest::twoHundredCuts);
        terms("some of the CHOICES that the PART is JOINED to, each with a VALUE, by rising numbers", TermsEdgeTest::risingReasons);
        terms("it is MET by VALUES that have all of these", TermsEdgeTest::metByAllReasons);
        terms("(without REASONS by all)", TermsEdgeTest::metWithoutReasons);
        terms("A BAR: where it is MET, the ANSWER is NONE", TermsEdgeTest::barsAreTrue);
        terms("A BOUND: where it is MET, the ANSWER is NONE, or its NUMBER or more", TermsEdgeTest::boundsAreTrue);
        terms("each is left out, if the CUT would be true without it, too (and without those left out before)",
                TermsEdgeTest::leftOutBefore);
        terms("for all VALUES, also BARRED ones, of the CHOICES that it does not have", TermsEdgeTest::barredValuesCount);
        terms("for all VALUES, also BARRED ones, of the CHOICES that it does not have", TermsEdgeTest::onlyValuesThereAre);
    }

    private static void rounds() {
        terms("of all PLANS by which no BAR is MET the one that costs least by the CUTS", TermsEdgeTest::mastersMeetNoBar);
        terms("the greatest NUMBER of the BOUNDS of that PART and FUTURE that it MEETS (0 without)", TermsEdgeTest::greatestNumber);
        terms("of several the first by order", TermsEdgeTest::firstOfSeveral);
        terms("Is there none, all is ended: nothing is POSSIBLE", TermsEdgeTest::noMaster);
        terms("each PART, by numbers, in each FUTURE, by numbers", TermsEdgeTest::orderOfCuts);
        terms("more than the MASTER had for it: a BOUND with that NUMBER comes", TermsEdgeTest::asMuchBringsNoBound);
        terms("(A CUT that would be the 201st does not come; then all behind it in this ROUND do not, either.)",
                TermsEdgeTest::cut201);
        terms("costs less than THE BEST (or there is none)", TermsEdgeTest::asGoodIsNoBest);
        terms("THE LOWER of the latest ROUND is not less than THE UPPER", TermsEdgeTest::oneLessIsNoEnd);
        terms("takes all CUTS of that PART away (the others move together)", TermsEdgeTest::cutsGo);
        terms("a CHOICE more, a PART more, a PRICE, BARRED or not, a FUTURE more, its WEIGHT leave CUTS as they are",
                TermsEdgeTest::cutsStay);
        terms("By each of these (also if it is told as it was) there is no BEST, no MASTER and no END any more",
                TermsEdgeTest::noEndAnyMore);
        terms("ROUNDS are counted from 0 on anew", TermsEdgeTest::roundsAnew);
        terms("(one without a MASTER counts, too)", TermsEdgeTest::roundWithoutMaster);
    }

    // ---- what it is, and the face

    private static void fiveHundredAndTwelveCalls() {
        SplitRounds x = Plans.town();
        int calls = 19;
        for (; calls + 4 <= 510; calls += 4) {
            x.shift(0, 0, 0, calls % 3);
            x.run(50);
            x.ask(0, calls % 3);
            x.judge();
        }
        for (; calls < 510; calls++) {
            x.told(0);
        }
        due("call 511", x.weigh(0, 0, false, 0, -1), -1);
        due("call 512", x.run(50), 1);
        SplitRounds y = Plans.crowd();
        int runs = 0;
        for (int used = 6 + 4 * 12; used < 511; used++) {
            y.run(50);
            runs++;
        }
        due("all rounds of 512 calls", y.told(0), 50 * runs);
    }

    private static void constants() {
        due("UNKNOWN", SplitRounds.UNKNOWN, UNKNOWN);
        due("OUTSIDE", SplitRounds.OUTSIDE, OUTSIDE);
        due("ROOM", SplitRounds.ROOM, ROOM);
        due("NONE", SplitRounds.NONE, NONE);
    }

    // ---- answers of calls

    /** Every pair of refusals that one call can earn at once. */
    private static void firstCounts() {
        SplitRounds x = Plans.fullTown();
        due("choice: OUTSIDE, ROOM", x.choice(5), OUTSIDE);
        due("price: UNKNOWN, OUTSIDE", x.price(6, 0, 201), UNKNOWN);
        due("price: UNKNOWN, OUTSIDE", x.price(0, 4, 201), UNKNOWN);
        due("future: OUTSIDE, ROOM", x.future(0), OUTSIDE);
        due("weight: UNKNOWN, OUTSIDE", x.weight(4, 0), UNKNOWN);
        due("join: UNKNOWN, ROOM", x.join(0, 6), UNKNOWN);
        due("join: NONE, ROOM", x.join(0, 0), NONE);
        due("local: UNKNOWN, OUTSIDE", x.local(4, 0, 0), UNKNOWN);
        due("local: OUTSIDE, ROOM", x.local(0, 0, 0), OUTSIDE);
        due("row: UNKNOWN, OUTSIDE", x.row(4, 100), UNKNOWN);
        due("row: OUTSIDE, ROOM", x.row(0, 100), OUTSIDE);
        due("weigh: UNKNOWN, OUTSIDE", x.weigh(0, 6, false, 0, 10), UNKNOWN);
        due("weigh: UNKNOWN, OUTSIDE", x.weigh(0, 0, true, 1, 10), UNKNOWN);
        due("shift: UNKNOWN, OUTSIDE", x.shift(4, 0, 0, 100), UNKNOWN);
        due("best: UNKNOWN, NONE", x.best(6), UNKNOWN);
        due("master: UNKNOWN, NONE", x.master(6), UNKNOWN);
        due("share: UNKNOWN, NONE", x.share(4), UNKNOWN);
        x.shift(0, 0, 0, -99);
        x.weigh(0, 0, true, 0, 1);
        x.ask(0, 1);
        due("unit: NONE", x.unit(0, 0, 3), NONE);
        due("unit: UNKNOWN, NONE", x.unit(0, 0, 4), UNKNOWN);
        due("cut: UNKNOWN, OUTSIDE", x.cut(0, 7), UNKNOWN);
        due("reason: UNKNOWN, NONE", x.reason(0, 3), UNKNOWN);
    }

    /** The call is refused with the answer that is due, and the object is as one that never heard it. */
    private static void refused(String call, Supplier<SplitRounds> made, int want, ToIntFunction<SplitRounds> refusal) {
        SplitRounds x = made.get();
        SplitRounds twin = made.get();
        due(call, refusal.applyAsInt(x), want);
        Sentences.same(call + ", then all", Seen.all(x), Seen.all(twin));
        due(call + ", then run(50)", x.run(50), twin.run(50));
        Sentences.same(call + ", then rounds", Seen.rounds(x), Seen.rounds(twin));
        Sentences.same(call + ", then settings", Seen.settings(x), Seen.settings(twin));
    }

    private static void refusedByAnEmptyOne() {
        Supplier<SplitRounds> made = SplitRounds::new;
        refused("choice(1)", made, OUTSIDE, x -> x.choice(1));
        refused("price(0, 0, 0)", made, UNKNOWN, x -> x.price(0, 0, 0));
        refused("future(0)", made, OUTSIDE, x -> x.future(0));
        refused("weight(1, 5)", made, UNKNOWN, x -> x.weight(1, 5));
        refused("weight(0, 21)", made, OUTSIDE, x -> x.weight(0, 21));
        refused("join(0, 0)", made, UNKNOWN, x -> x.join(0, 0));
        refused("local(0, 1, 1)", made, UNKNOWN, x -> x.local(0, 1, 1));
        refused("row(0, 0)", made, UNKNOWN, x -> x.row(0, 0));
        refused("weigh(0, 0, true, 0, 1)", made, UNKNOWN, x -> x.weigh(0, 0, true, 0, 1));
        refused("weigh(0, 0, false, 0, 1)", made, UNKNOWN, x -> x.weigh(0, 0, false, 0, 1));
        refused("shift(0, 0, 0, 1)", made, UNKNOWN, x -> x.shift(0, 0, 0, 1));
        refused("run(0)", made, OUTSIDE, x -> x.run(0));
        refused("run(51)", made, OUTSIDE, x -> x.run(51));
        refused("ask(0, 0)", made, UNKNOWN, x -> x.ask(0, 0));
        refused("answer(0, 0)", made, UNKNOWN, x -> x.answer(0, 0));
        refused("unit(0, 0, 0)", made, UNKNOWN, x -> x.unit(0, 0, 0));
        refused("share(0)", made, UNKNOWN, x -> x.share(0));
        refused("cut(0, 0)", made, UNKNOWN, x -> x.cut(0, 0));
        refused("reason(0, 0)", made, UNKNOWN, x -> x.reason(0, 0));
    }

    private static SplitRounds startedTown() {
        SplitRounds x = Plans.town();
        x.run(1);
        x.ask(0, 1);
        return x;
    }

    private static void refusedByATown() {
        Supplier<SplitRounds> made = TermsEdgeTest::startedTown;
        refused("choice(5)", made, OUTSIDE, x -> x.choice(5));
        refused("price(0, 3, 1)", made, UNKNOWN, x -> x.price(0, 3, 1));
        refused("price(2, 0, 1)", made, UNKNOWN, x -> x.price(2, 0, 1));
        refused("price(0, 1, 201)", made, OUTSIDE, x -> x.price(0, 1, 201));
        refused("price(0, 1, -1)", made, OUTSIDE, x -> x.price(0, 1, -1));
        refused("future(21)", made, OUTSIDE, x -> x.future(21));
        refused("weight(2, 1)", made, UNKNOWN, x -> x.weight(2, 1));
        refused("weight(1, 0)", made, OUTSIDE, x -> x.weight(1, 0));
        refused("join(0, 0)", made, NONE, x -> x.join(0, 0));
        refused("join(0, 2)", made, UNKNOWN, x -> x.join(0, 2));
        refused("join(2, 0)", made, UNKNOWN, x -> x.join(2, 0));
        refused("local(0, 4, 1)", made, OUTSIDE, x -> x.local(0, 4, 1));
        refused("local(0, 1, 51)", made, OUTSIDE, x -> x.local(0, 1, 51));
        refused("local(2, 1, 1)", made, UNKNOWN, x -> x.local(2, 1, 1));
        refused("row(0, 100)", made, OUTSIDE, x -> x.row(0, 100));
        refused("row(2, 0)", made, UNKNOWN, x -> x.row(2, 0));
        refused("weigh(0, 0, true, 0, 10)", made, OUTSIDE, x -> x.weigh(0, 0, true, 0, 10));
        refused("weigh(0, 0, false, 0, -10)", made, OUTSIDE, x -> x.weigh(0, 0, false, 0, -10));
        refused("weigh(0, 0, true, 1, 1)", made, UNKNOWN, x -> x.weigh(0, 0, true, 1, 1));
        refused("weigh(0, 0, false, 1, 1)", made, UNKNOWN, x -> x.weigh(0, 0, false, 1, 1));
        refused("weigh(0, 1, false, 0, 1)", made, UNKNOWN, x -> x.weigh(0, 1, false, 0, 1));
        refused("shift(2, 0, 0, 1)", made, UNKNOWN, x -> x.shift(2, 0, 0, 1));
        refused("shift(0, 0, 1, 1)", made, UNKNOWN, x -> x.shift(0, 0, 1, 1));
        refused("shift(1, 0, 0, 100)", made, OUTSIDE, x -> x.shift(1, 0, 0, 100));
        refused("run(0)", made, OUTSIDE, x -> x.run(0));
        refused("run(51)", made, OUTSIDE, x -> x.run(51));
        refused("ask(0, 3)", made, UNKNOWN, x -> x.ask(0, 3));
        refused("ask(2, 0)", made, UNKNOWN, x -> x.ask(2, 0));
        refused("cut(4, 0)", made, UNKNOWN, x -> x.cut(4, 0));
        refused("cut(0, 7)", made, OUTSIDE, x -> x.cut(0, 7));
        refused("reason(0, 1)", made, NONE, x -> x.reason(0, 1));
    }

    /** With a bound of part 0 and a bar of part 1. */
    private static SplitRounds startedFullTown() {
        SplitRounds x = Plans.fullTown();
        x.price(0, 0, NONE);
        x.weigh(0, 0, true, 0, 2);
        x.weigh(0, 0, false, 0, -1);
        x.shift(0, 0, 0, -99);
        x.price(1, 0, 5);
        x.weigh(1, 0, true, 1, 1);
        x.shift(1, 1, 0, -99);
        x.run(1);
        return x;
    }

    private static void refusedByAFullTown() {
        due("cuts", startedFullTown().told(1), 2);
        Supplier<SplitRounds> made = TermsEdgeTest::startedFullTown;
        refused("choice(2)", made, ROOM, x -> x.choice(2));
        refused("future(1)", made, ROOM, x -> x.future(1));
        refused("part()", made, ROOM, SplitRounds::part);
        refused("join(0, 1)", made, ROOM, x -> x.join(0, 1));
        refused("local(0, 1, 0)", made, ROOM, x -> x.local(0, 1, 0));
        refused("row(0, -99)", made, ROOM, x -> x.row(0, -99));
        refused("weight(4, 1)", made, UNKNOWN, x -> x.weight(4, 1));
        refused("local(4, 1, 1)", made, UNKNOWN, x -> x.local(4, 1, 1));
        refused("row(4, 0)", made, UNKNOWN, x -> x.row(4, 0));
        refused("weigh(0, 6, false, 0, 1)", made, UNKNOWN, x -> x.weigh(0, 6, false, 0, 1));
        refused("weigh(0, 0, false, 4, 1)", made, UNKNOWN, x -> x.weigh(0, 0, false, 4, 1));
        refused("weigh(0, 0, true, 6, 1)", made, UNKNOWN, x -> x.weigh(0, 0, true, 6, 1));
        refused("shift(4, 0, 0, 1)", made, UNKNOWN, x -> x.shift(4, 0, 0, 1));
        refused("shift(0, 0, 6, 1)", made, UNKNOWN, x -> x.shift(0, 0, 6, 1));
        refused("ask(5, 4)", made, UNKNOWN, x -> x.ask(5, 4));
        refused("ask(6, 0)", made, UNKNOWN, x -> x.ask(6, 0));
    }

    private static void numbersInOrder() {
        SplitRounds x = Plans.town();
        due("choice", x.choice(4), 2);
        due("a call that is refused takes no number", x.choice(5), OUTSIDE);
        due("choice", x.choice(3), 3);
        due("its values are its own", x.ask(3, 3), UNKNOWN);
        due("those of the one ahead, too", x.ask(2, 3), 0);
        due("future", x.future(9), 2);
        due("its weight", x.weight(2, 9), 9);
        due("part", x.part(), 2);
        due("local of part 2", x.local(2, 1, 1), 0);
        due("row of part 2", x.row(2, -1), 0);
        due("row of part 2", x.row(2, 0), 1);
        due("row 0 is the one that came first", x.answer(2, 0), NONE);
        x.shift(0, 2, 0, 1);
        due("it holds now", x.answer(2, 0), 0);
    }

    // ---- what there is

    private static void sixChoices() {
        SplitRounds x = new SplitRounds();
        for (int c = 0; c < 6; c++) {
            x.choice(2);
            x.price(c, 0, 1 << c);
            x.price(c, 1, 1 << c);
        }
        due("the seventh", x.choice(4), ROOM);
        due("all six are in a plan", x.judge(), 63);
        x.run(50);
        due("told(3)", x.told(3), 63);
        due("best(5)", x.best(5), 0);
        due("best(6)", x.best(6), UNKNOWN);
    }

    /** The dearest are ahead, so that the last value is the best. */
    private static void twoToFourValues() {
        for (int n = 2; n <= 4; n++) {
            SplitRounds x = new SplitRounds();
            x.choice(n);
            for (int v = 0; v < n; v++) {
                due("price of " + v, x.price(0, v, 9 - v), 1);
            }
            due("price of " + n, x.price(0, n, 0), UNKNOWN);
            due("price of -1", x.price(0, -1, 0), UNKNOWN);
            x.run(50);
            due("best(0)", x.best(0), n - 1);
            due("told(3)", x.told(3), 10 - n);
        }
        for (int n : new int[] {1, 5}) {
            due("choice(" + n + ")", new SplitRounds().choice(n), OUTSIDE);
        }
    }

    private static void pricesOfValues() {
        SplitRounds x = new SplitRounds();
        x.choice(2);
        due("0 at first", x.judge(), 0);
        for (int price : new int[] {0, 1, 199, 200}) {
            due("price(0, 0, " + price + ")", x.price(0, 0, price), 1);
            due("price(0, 1, " + price + ")", x.price(0, 1, price), 1);
            due("judge()", x.judge(), price);
        }
        due("price(0, 0, 201)", x.price(0, 0, 201), OUTSIDE);
        due("price(0, 0, -1)", x.price(0, 0, -1), OUTSIDE);
        due("barred", x.price(0, 0, NONE), 1);
        due("barred", x.price(0, 1, NONE), 1);
        due("judge()", x.judge(), NONE);
    }

    private static void fourFutures() {
        SplitRounds x = Plans.shop();
        x.price(0, 1, NONE);
        x.price(0, 2, NONE);
        for (int f = 1; f < 4; f++) {
            x.future(1);
            x.shift(f, 0, 0, f - 2);
        }
        due("the fifth", x.future(1), ROOM);
        due("all four count: 20, 30, 20, 10", x.judge(), 80);
        due("answer(0, 3)", x.answer(0, 3), 10);
        due("answer(0, 4)", x.answer(0, 4), UNKNOWN);
    }

    private static void weights() {
        for (int w : new int[] {1, 2, 19, 20}) {
            SplitRounds x = new SplitRounds();
            due("future(" + w + ")", x.future(w), 1);
            due("weight(0, " + w + ")", x.weight(0, w), 1);
            due("told(4)", x.told(4), 2 * w);
        }
        for (int w : new int[] {0, 21, -1}) {
            SplitRounds x = new SplitRounds();
            due("future(" + w + ")", x.future(w), OUTSIDE);
            due("weight(0, " + w + ")", x.weight(0, w), OUTSIDE);
        }
    }

    private static void firstFuture() {
        SplitRounds x = new SplitRounds();
        due("told(7)", x.told(7), 1);
        due("told(4)", x.told(4), 1);
        due("weight(0, 3)", x.weight(0, 3), 1);
        due("future(5), the second", x.future(5), 1);
    }

    private static void sumOfWeights() {
        SplitRounds x = new SplitRounds();
        x.choice(2);
        x.price(0, 0, 1);
        x.price(0, 1, 1);
        int sum = 1;
        for (int f = 1; f < 4; f++) {
            x.future(6 * f);
            sum += 6 * f;
            due("told(4)", x.told(4), sum);
            due("W times 1", x.judge(), sum);
        }
        for (int f = 0; f < 4; f++) {
            x.weight(f, 20);
        }
        due("the greatest", x.told(4), 80);
        due("W times 1", x.judge(), 80);
    }

    private static void fourParts() {
        SplitRounds x = new SplitRounds();
        for (int p = 0; p < 4; p++) {
            x.part();
            x.local(p, 1, 1 + p);
            x.row(p, -1);
            x.weigh(p, 0, false, 0, -1);
        }
        due("the fifth", x.part(), ROOM);
        due("all four answer", x.judge(), 10);
        x.run(50);
        due("share(3)", x.share(3), 4);
        due("share(4)", x.share(4), UNKNOWN);
    }

    private static void threeJoined() {
        SplitRounds x = Plans.fullTown();
        due("the fourth", x.join(0, 5), ROOM);
        for (int c = 0; c < 6; c++) {
            x.ask(c, 3);
        }
        x.shift(0, 0, 0, -99);
        x.weigh(0, 0, false, 0, -9);
        x.weigh(0, 0, true, 0, 1);
        due("choice 0 counts", x.answer(0, 0), 50);
        x.weigh(0, 0, true, 2, 3);
        due("choice 2, too", x.answer(0, 0), 100);
        x.weigh(0, 0, true, 4, 5);
        due("choice 4, too", x.answer(0, 0), 150);
    }

    private static void fourLocals() {
        SplitRounds x = new SplitRounds();
        x.part();
        x.row(0, 0);
        for (int i = 0; i < 4; i++) {
            x.local(0, 1, 10 + i);
            x.weigh(0, 0, false, i, -1);
        }
        due("the fifth", x.local(0, 1, 0), ROOM);
        int price = 0;
        for (int i = 0; i < 4; i++) {
            x.shift(0, 0, 0, -1 - i);
            price += 10 + i;
            due((i + 1) + " are needed", x.answer(0, 0), price);
        }
        x.shift(0, 0, 0, -5);
        due("there is no fifth", x.answer(0, 0), NONE);
    }

    private static void tops() {
        for (int top = 1; top <= 3; top++) {
            SplitRounds x = new SplitRounds();
            x.part();
            x.row(0, 0);
            due("local(0, " + top + ", 7)", x.local(0, top, 7), 0);
            x.weigh(0, 0, false, 0, -1);
            due("none is needed", x.unit(0, 0, 0), 0);
            x.shift(0, 0, 0, -top);
            due("all are needed", x.unit(0, 0, 0), top);
            due("answer", x.answer(0, 0), 7 * top);
            x.shift(0, 0, 0, -top - 1);
            due("one more", x.answer(0, 0), NONE);
        }
        for (int top : new int[] {0, 4, -1}) {
            due("a top of " + top, Plans.town().local(0, top, 7), OUTSIDE);
        }
    }

    private static void pricesOfUnits() {
        for (int price : new int[] {0, 1, 49, 50}) {
            SplitRounds x = new SplitRounds();
            x.part();
            x.row(0, -3);
            due("local(0, 3, " + price + ")", x.local(0, 3, price), 0);
            x.weigh(0, 0, false, 0, -1);
            due("three units", x.answer(0, 0), 3 * price);
        }
        due("a price of 51", Plans.town().local(0, 1, 51), OUTSIDE);
        due("a price of -1", Plans.town().local(0, 1, -1), OUTSIDE);
    }

    private static void sixRows() {
        SplitRounds x = new SplitRounds();
        x.part();
        for (int r = 0; r < 6; r++) {
            due("row", x.row(0, r), r);
        }
        due("the seventh", x.row(0, 0), ROOM);
        for (int r = 0; r < 6; r++) {
            due("all hold", x.answer(0, 0), 0);
            x.shift(0, 0, r, -r - 1);
            due("row " + r + " does not", x.answer(0, 0), NONE);
            x.shift(0, 0, r, -r);
        }
    }

    /**
     * Three choices at 3, and a part that must take all of its 12 units, at 50 each; its second row weighs
     * all of these by w, so that its sum is 21 times w.
     */
    private static SplitRounds stretched(int limit, int w) {
        SplitRounds x = new SplitRounds();
        x.part();
        x.row(0, -12);
        x.row(0, limit);
        for (int i = 0; i < 4; i++) {
            x.local(0, 3, 50);
            x.weigh(0, 0, false, i, -1);
            x.weigh(0, 1, false, i, w);
        }
        for (int c = 0; c < 3; c++) {
            x.choice(4);
            x.ask(c, 3);
            x.join(0, c);
            x.weigh(0, 1, true, c, w);
        }
        return x;
    }

    private static void weighings() {
        SplitRounds x = stretched(99, 9);
        x.shift(0, 0, 1, 90);
        due("189 is at most 189", x.answer(0, 0), 600);
        x.shift(0, 0, 1, 89);
        due("189 is not at most 188", x.answer(0, 0), NONE);
        SplitRounds y = stretched(-99, -9);
        y.shift(0, 0, 1, -90);
        due("-189 is at most -189", y.answer(0, 0), 600);
        y.shift(0, 0, 1, -91);
        due("-189 is not at most -190", y.answer(0, 0), NONE);
        due("0 at first: a choice's in row 0", x.weigh(0, 0, true, 2, 1), 0);
        x.row(0, 0);
        due("0 at first: a local's in row 2", x.weigh(0, 2, false, 3, 1), 0);
        for (int v : new int[] {-10, 10}) {
            due("weighing " + v, x.weigh(0, 1, false, 3, v), OUTSIDE);
            due("weighing " + v, x.weigh(0, 1, true, 2, v), OUTSIDE);
        }
    }

    private static void limits() {
        for (int limit : new int[] {-99, -98, 0, 98, 99}) {
            SplitRounds x = new SplitRounds();
            x.choice(2);
            x.part();
            x.join(0, 0);
            due("row(0, " + limit + ")", x.row(0, limit), 0);
            x.weigh(0, 0, true, 0, 1);
            x.shift(0, 0, 0, -limit);
            due("0 is at most 0", x.answer(0, 0), 0);
            x.ask(0, 1);
            due("1 is not at most 0", x.answer(0, 0), NONE);
        }
        due("row(0, 100)", Plans.town().row(0, 100), OUTSIDE);
        due("row(0, -100)", Plans.town().row(0, -100), OUTSIDE);
    }

    private static void shifts() {
        SplitRounds x = new SplitRounds();
        x.part();
        x.row(0, 0);
        x.future(1);
        for (int f = 0; f < 2; f++) {
            due("0 at first", x.shift(f, 0, 0, -99), 0);
            due("-99", x.shift(f, 0, 0, 99), -99);
            due("99", x.shift(f, 0, 0, 0), 99);
            due("100", x.shift(f, 0, 0, 100), OUTSIDE);
            due("-100", x.shift(f, 0, 0, -100), OUTSIDE);
        }
        x.shift(1, 0, 0, -1);
        due("in its future", x.answer(0, 1), NONE);
        due("in the other", x.answer(0, 0), 0);
    }

    private static void leastPrice() {
        SplitRounds x = new SplitRounds();
        x.part();
        x.local(0, 3, 4);
        x.local(0, 1, 9);
        x.local(0, 3, 0);
        x.row(0, -3);
        x.weigh(0, 0, false, 0, -1);
        x.weigh(0, 0, false, 1, -3);
        due("one at 9, not three at 4", x.answer(0, 0), 9);
        x.row(0, 0);
        x.weigh(0, 1, false, 1, 1);
        due("all rows hold: three at 4", x.answer(0, 0), 12);
        x.weigh(0, 1, false, 2, -1);
        due("a unit for nothing makes it hold", x.answer(0, 0), 9);
        due("unit 2", x.unit(0, 0, 2), 1);
        x.row(0, -3);
        x.weigh(0, 2, false, 0, -1);
        due("all units count", x.answer(0, 0), 12);
        SplitRounds y = new SplitRounds();
        y.part();
        y.local(0, 3, 5);
        y.local(0, 3, 7);
        y.row(0, -2);
        y.weigh(0, 0, false, 0, -3);
        y.weigh(0, 0, false, 1, -1);
        due("one at 5, though two at 7 are ahead by order", y.answer(0, 0), 5);
        due("unit 0", y.unit(0, 0, 0), 1);
        due("unit 1", y.unit(0, 0, 1), 0);
    }

    private static void noSuchLocals() {
        SplitRounds x = new SplitRounds();
        x.part();
        x.local(0, 3, 4);
        x.row(0, -3);
        x.row(0, 3);
        x.weigh(0, 0, false, 0, -1);
        x.weigh(0, 1, false, 0, 1);
        due("3 alone holds both", x.answer(0, 0), 12);
        x.shift(0, 0, 1, -1);
        due("none holds both", x.answer(0, 0), NONE);
        x.shift(0, 0, 0, 1);
        due("2 does", x.answer(0, 0), 8);
    }

    private static void withoutLocals() {
        SplitRounds x = new SplitRounds();
        x.part();
        due("without rows", x.answer(0, 0), 0);
        x.row(0, 0);
        due("a row that holds", x.answer(0, 0), 0);
        x.row(0, -1);
        due("a row that does not", x.answer(0, 0), NONE);
        x.run(50);
        due("nothing is possible", x.told(8), 2);
    }

    private static void barredIsNoPlan() {
        SplitRounds x = Plans.town();
        x.price(0, 2, NONE);
        x.run(50);
        due("best(0)", x.best(0), 1);
        due("told(3) is the judge's", x.told(3), x.judge());
        x.price(0, 0, NONE);
        x.price(0, 1, NONE);
        due("all values of one choice: judge()", x.judge(), NONE);
        due("run(50)", x.run(50), 0);
        x.ask(0, 2);
        due("the parts answer all the same", x.answer(0, 0), 0);
    }

    /** W is 80, each of six choices costs 200, and each of four parts 600. */
    private static void dearestPlan() {
        SplitRounds x = new SplitRounds();
        for (int f = 1; f < 4; f++) {
            x.future(20);
        }
        x.weight(0, 20);
        for (int c = 0; c < 6; c++) {
            x.choice(2);
            x.price(c, 0, 200);
            x.price(c, 1, 200);
        }
        for (int p = 0; p < 4; p++) {
            x.part();
            x.row(p, -12);
            for (int i = 0; i < 4; i++) {
                x.local(p, 3, 50);
                x.weigh(p, 0, false, i, -1);
            }
        }
        due("judge()", x.judge(), 80 * 1200 + 80 * 2400);
        due("run(1)", x.run(1), 2);
        due("told(2)", x.told(2), 96000);
        due("run(1)", x.run(1), 1);
        due("told(2)", x.told(2), 288000);
        due("told(3)", x.told(3), 288000);
        due("share(NONE)", x.share(NONE), 96000);
        due("share(3)", x.share(3), 48000);
    }

    private static void possibleInAllFutures() {
        SplitRounds x = Plans.town();
        x.future(1);
        x.shift(2, 0, 0, -2);
        due("value 0 is impossible in the last future", x.answer(0, 2), NONE);
        x.price(0, 1, NONE);
        x.price(0, 2, NONE);
        due("judge()", x.judge(), NONE);
        due("run(50)", x.run(50), 0);
        x.shift(2, 0, 0, -1);
        due("possible again", x.run(50), 1);
        x.part();
        x.row(2, 0);
        x.shift(2, 2, 0, -1);
        due("the last part in the last future", x.judge(), NONE);
        due("run(50)", x.run(50), 0);
    }

    private static void planOrder() {
        SplitRounds x = new SplitRounds();
        x.choice(2);
        x.choice(4);
        x.price(0, 0, 3);
        x.price(1, 0, 3);
        x.price(1, 1, 3);
        x.price(1, 2, 3);
        due("1, 3 is the least", x.judge(), 0);
        x.price(0, 1, 3);
        x.run(50);
        due("0, 3 and 1, 3 cost the same: best(0)", x.best(0), 0);
        due("best(1)", x.best(1), 3);
        x.price(0, 1, 0);
        x.price(1, 0, 0);
        x.price(1, 3, 0);
        x.run(50);
        due("1, 0 and 1, 3 cost the same: best(0)", x.best(0), 1);
        due("best(1)", x.best(1), 0);
        x.price(0, 0, 0);
        x.price(1, 0, NONE);
        x.run(50);
        due("0, 3 is ahead of 1, 3: best(0)", x.best(0), 0);
        due("best(1)", x.best(1), 3);
    }

    // ---- cuts

    /** Four cuts a round: the fiftieth brings the 200th, the next ones bring none. */
    private static void twoHundredCuts() {
        SplitRounds x = Plans.staircase(4);
        due("run(49)", x.run(49), 2);
        due("told(1)", x.told(1), 196);
        due("run(1)", x.run(1), 2);
        due("told(1)", x.told(1), 200);
        due("the 200th is of part 3", x.cut(199, 1), 3);
        due("its future", x.cut(199, 2), 0);
        due("its round", x.cut(199, 5), 49);
        due("its number", x.cut(199, 3), 5);
        due("run(1)", x.run(1), 2);
        due("told(1)", x.told(1), 200);
        due("told(0)", x.told(0), 51);
        due("run(50)", x.run(50), 2);
        due("rounds that bring nothing count", x.told(0), 101);
        due("told(8)", x.told(8), 0);
        due("told(2)", x.told(2), 0);
        due("told(3), by 2, 3, 3", x.told(3), 4);
    }

    private static void risingReasons() {
        SplitRounds x = new SplitRounds();
        for (int c = 0; c < 6; c++) {
            x.choice(4);
        }
        x.part();
        int[] joined = {5, 0, 3};
        x.row(0, 8);
        for (int c : joined) {
            x.join(0, c);
            x.weigh(0, 0, true, c, 1);
            x.price(c, 0, NONE);
            x.price(c, 1, NONE);
            x.price(c, 2, NONE);
        }
        x.run(1);
        due("three reasons", x.cut(0, 4), 3);
        due("reason(0, 0)", x.reason(0, 0), 3);
        due("reason(0, 1)", x.reason(0, 1), 33);
        due("reason(0, 2)", x.reason(0, 2), 53);
    }

    private static void metByAllReasons() {
        SplitRounds x = Plans.crowd();
        x.run(4);
        due("two reasons", x.cut(48, 4), 2);
        due("reason(48, 0)", x.reason(48, 0), 0);
        due("reason(48, 1)", x.reason(48, 1), 10);
        for (int v = 0; v < 4; v++) {
            x.ask(2, v);
            due("a choice that is none of them", x.cut(48, 6), 1);
        }
        x.ask(0, 1);
        due("without the first", x.cut(48, 6), 0);
        x.ask(1, 1);
        due("without both", x.cut(48, 6), 0);
        x.ask(0, 0);
        due("without the second", x.cut(48, 6), 0);
    }

    private static void metWithoutReasons() {
        SplitRounds x = Plans.hopeless();
        x.choice(4);
        x.run(1);
        due("no reasons", x.cut(0, 4), 0);
        for (int v = 0; v < 4; v++) {
            x.ask(0, v % 2);
            x.ask(1, v);
            due("met", x.cut(0, 6), 1);
        }
        x.price(0, 0, NONE);
        due("no plan is left", x.run(1), 0);
    }

    /** Wherever a cut is met, the parts' own answers bear it out. */
    private static void dueTrue(SplitRounds x, int values) {
        for (int v = 0; v < values; v++) {
            x.ask(0, v);
            for (int k = 0; k < x.told(1); k++) {
                int answer = x.answer(x.cut(k, 1), x.cut(k, 2));
                boolean borne = answer == NONE || (x.cut(k, 0) == 1 && answer >= x.cut(k, 3));
                due("value " + v + " and cut " + k, x.cut(k, 6) == 0 || borne ? 1 : 0, 1);
            }
        }
    }

    private static void barsAreTrue() {
        SplitRounds x = Plans.shop();
        x.shift(0, 0, 0, -2);
        due("0 can't be, 1 can", x.run(1), 2);
        due("a bar", x.cut(0, 0), 0);
        due("not met by 1 and 2", x.cut(0, 4), 1);
        x.run(50);
        dueTrue(x, 3);
        x.shift(0, 0, 0, -3);
        x.run(1);
        due("0 and 1 can't be, 2 can", x.cut(0, 4), 1);
        x.shift(0, 0, 0, -4);
        x.run(1);
        due("none can be", x.cut(0, 4), 0);
        dueTrue(x, 3);
        SplitRounds y = Plans.hopeless();
        y.shift(0, 0, 0, 2);
        y.weigh(0, 0, true, 0, 1);
        y.price(0, 0, 1);
        y.run(1);
        due("1 can't be, 0 can", y.cut(0, 4), 1);
        due("reason(0, 0)", y.reason(0, 0), 1);
    }

    private static void boundsAreTrue() {
        SplitRounds x = Plans.shop();
        x.weigh(0, 0, true, 0, 1);
        x.run(1);
        due("20, 30, NONE: its number", x.cut(0, 3), 20);
        due("more, or NONE: no reasons", x.cut(0, 4), 0);
        dueTrue(x, 3);
        x.weigh(0, 0, true, 0, 0);
        x.run(1);
        due("20, 20, 20: its number", x.cut(0, 3), 20);
        due("the number itself: no reasons", x.cut(0, 4), 0);
        SplitRounds y = fork(20, 19);
        y.run(1);
        due("20, 19: its number", y.cut(0, 3), 20);
        due("one less: a reason", y.cut(0, 4), 1);
        y.run(50);
        dueTrue(y, 2);
        SplitRounds z = fork(19, 20);
        z.price(0, 0, 1);
        z.run(1);
        due("20 of value 1: its number", z.cut(0, 3), 20);
        due("one less of value 0: a reason", z.cut(0, 4), 1);
        due("reason(0, 0)", z.reason(0, 0), 1);
    }

    /** A choice of 0 or 1 for nothing, and a part that answers one number to 0, the other to 1. */
    private static SplitRounds fork(int toZero, int toOne) {
        SplitRounds x = new SplitRounds();
        x.choice(2);
        x.part();
        x.join(0, 0);
        x.local(0, 1, toZero);
        x.local(0, 1, toOne);
        x.row(0, -1);
        x.weigh(0, 0, true, 0, -1);
        x.weigh(0, 0, false, 0, -1);
        x.row(0, 0);
        x.weigh(0, 1, true, 0, 1);
        x.weigh(0, 1, false, 1, -1);
        return x;
    }

    /** Each choice alone bears the bar: the first is left out, the second can't be any more. */
    private static void leftOutBefore() {
        SplitRounds x = new SplitRounds();
        x.choice(2);
        x.choice(2);
        x.part();
        x.join(0, 1);
        x.join(0, 0);
        for (int c = 0; c < 2; c++) {
            x.row(0, -1);
            x.weigh(0, c, true, c, -1);
        }
        x.run(1);
        due("a bar", x.cut(0, 0), 0);
        due("one reason", x.cut(0, 4), 1);
        due("reason(0, 0)", x.reason(0, 0), 10);
        x.run(1);
        due("the master is 0, 1", x.master(1), 1);
        due("reason(1, 0)", x.reason(1, 0), 0);
        due("one reason", x.cut(1, 4), 1);
    }

    private static void barredValuesCount() {
        SplitRounds x = fork(20, 10);
        x.price(0, 1, NONE);
        x.run(1);
        due("a bound: the barred value's answer is less", x.cut(0, 4), 1);
        SplitRounds y = Plans.hopeless();
        y.shift(0, 0, 0, 1);
        y.price(0, 1, NONE);
        y.run(1);
        due("a bar: the barred value has an answer", y.cut(0, 4), 1);
        due("reason(0, 0)", y.reason(0, 0), 0);
        due("run(1)", y.run(1), 0);
    }

    /** With a value more than there is each choice would bring the part what it needs. */
    private static void onlyValuesThereAre() {
        for (int n = 2; n <= 4; n++) {
            SplitRounds x = new SplitRounds();
            x.part();
            x.row(0, 1 - n);
            for (int c = 0; c < 3; c++) {
                x.choice(c == 0 ? n : 2);
                x.join(0, c);
            }
            x.weigh(0, 0, true, 0, -1);
            x.run(1);
            due("the last of " + n + " values helps: reasons", x.cut(0, 4), 1);
            x.shift(0, 0, 0, -1);
            x.run(1);
            due("no value helps: reasons", x.cut(0, 4), 0);
            due("a bar", x.cut(0, 0), 0);
        }
    }

    // ---- rounds

    private static void dueMaster(String call, SplitRounds x, int... values) {
        for (int c = 0; c < values.length; c++) {
            due(call + ": master(" + c + ")", x.master(c), values[c]);
        }
    }

    private static void mastersMeetNoBar() {
        SplitRounds x = Plans.shop();
        x.future(1);
        x.shift(1, 0, 0, -2);
        x.run(1);
        dueMaster("the first", x, 0);
        due("it can't be in the last future", x.cut(1, 0), 0);
        x.run(1);
        dueMaster("the next, dearer", x, 1);
        due("told(2)", x.told(2), 8);
        x.price(0, 1, NONE);
        x.price(0, 2, NONE);
        due("only the bar's value is left", x.run(1), 0);
    }

    private static void greatestNumber() {
        SplitRounds x = fork(20, 10);
        x.price(0, 0, 7);
        x.price(0, 1, 6);
        x.run(1);
        due("0 without: told(2)", x.told(2), 6);
        due("a bound of 10 that all values meet", x.cut(0, 4), 0);
        x.price(0, 1, NONE);
        x.run(1);
        due("10 for the other: told(2)", x.told(2), 17);
        due("a bound of 20", x.cut(1, 3), 20);
        x.run(1);
        due("both are met, 20 is greater: told(2)", x.told(2), 27);
        SplitRounds y = fork(20, 10);
        y.run(50);
        due("the greater came first", y.cut(0, 3), 20);
        due("the lesser is met by all", y.cut(1, 4), 0);
        y.price(0, 1, NONE);
        y.run(1);
        due("20 is greater: told(2)", y.told(2), 20);
    }

    private static void firstOfSeveral() {
        SplitRounds x = Plans.staircase(1);
        for (int i = 0; i < 64; i++) {
            x.run(1);
            dueMaster("round " + i, x, i / 16, i / 4 % 4, i % 4);
        }
        due("told(8)", x.told(8), 1);
    }

    private static void noMaster() {
        SplitRounds x = new SplitRounds();
        x.choice(2);
        x.choice(2);
        x.price(1, 0, NONE);
        x.price(1, 1, NONE);
        due("all values of a choice are barred", x.run(50), 0);
        due("told(8)", x.told(8), 2);
        due("no cuts are needed", x.told(1), 0);
        due("told(2)", x.told(2), NONE);
        SplitRounds y = Plans.hopeless();
        due("a bar that all meet", y.run(50), 0);
        due("told(8)", y.told(8), 2);
        due("told(1)", y.told(1), 1);
    }

    private static void orderOfCuts() {
        SplitRounds x = Plans.crowd();
        x.run(1);
        due("told(1)", x.told(1), 16);
        for (int k = 0; k < 16; k++) {
            due("cut(" + k + ", 1)", x.cut(k, 1), k / 4);
            due("cut(" + k + ", 2)", x.cut(k, 2), k % 4);
        }
    }

    private static void asMuchBringsNoBound() {
        SplitRounds x = fork(0, 7);
        due("0 is not more than 0", x.run(1), 1);
        due("told(1)", x.told(1), 0);
        SplitRounds y = fork(10, 10);
        y.run(50);
        due("one bound for both values", y.told(1), 1);
        y.price(0, 0, NONE);
        due("10 is not more than 10", y.run(1), 1);
        due("told(1)", y.told(1), 1);
        SplitRounds z = fork(10, 11);
        z.run(50);
        due("told(1)", z.told(1), 1);
        z.price(0, 0, NONE);
        due("11 is more than 10", z.run(1), 2);
        due("told(1)", z.told(1), 2);
        due("cut(1, 3)", z.cut(1, 3), 11);
    }

    private static void cut201() {
        SplitRounds x = Plans.crowd();
        x.run(12);
        due("12 rounds of 16", x.told(1), 192);
        due("told(3)", x.told(3), 64);
        due("the thirteenth", x.run(1), 2);
        due("eight came", x.told(1), 200);
        due("the last is of part 1", x.cut(199, 1), 1);
        due("in future 3", x.cut(199, 2), 3);
        due("of round 12", x.cut(199, 5), 12);
        due("the one of part 3 ahead is of round 11", x.cut(191, 5), 11);
        dueMaster("the thirteenth", x, 0, 3, 0);
        due("a best all the same: told(3)", x.told(3), 48);
        due("best(1)", x.best(1), 3);
        due("the fourteenth", x.run(1), 2);
        due("none came", x.told(1), 200);
        due("a best all the same: told(3)", x.told(3), 32);
        dueMaster("the fourteenth", x, 0, 3, 1);
        due("run(50)", x.run(50), 2);
        dueMaster("all others", x, 0, 3, 1);
        due("told(0)", x.told(0), 64);
        due("cut(200, 0)", x.cut(200, 0), UNKNOWN);
        x.shift(3, 3, 0, 0);
        due("48 cuts of part 3 are gone", x.told(1), 152);
        x.run(1);
        due("there is room for 16 again", x.told(1), 168);
        due("cut(152, 5)", x.cut(152, 5), 0);
    }

    private static void asGoodIsNoBest() {
        SplitRounds x = fork(10, 5);
        x.price(0, 1, 5);
        x.run(1);
        due("there was none: best(0)", x.best(0), 0);
        due("told(3)", x.told(3), 10);
        x.run(1);
        dueMaster("as good", x, 1);
        due("best(0)", x.best(0), 0);
        due("told(3)", x.told(3), 10);
        SplitRounds y = fork(10, 4);
        y.price(0, 1, 5);
        y.run(2);
        due("one less: best(0)", y.best(0), 1);
        due("told(3)", y.told(3), 9);
        SplitRounds z = fork(10, 6);
        z.price(0, 1, 5);
        z.run(2);
        dueMaster("dearer", z, 1);
        due("best(0)", z.best(0), 0);
        due("told(3)", z.told(3), 10);
    }

    private static void oneLessIsNoEnd() {
        SplitRounds x = fork(10, 1);
        x.price(0, 1, 9);
        x.run(1);
        due("run(1)", x.run(1), 2);
        due("told(2)", x.told(2), 9);
        due("told(3)", x.told(3), 10);
        due("told(8)", x.told(8), 0);
        due("run(1)", x.run(1), 1);
        due("told(2)", x.told(2), 10);
        due("told(3)", x.told(3), 10);
        due("told(8)", x.told(8), 1);
    }

    /** What can be told of part 0 of the town, and of a part like it; some of it as it was. */
    private static final String[] OF_A_PART = {"join", "local", "row", "weigh a choice", "weigh a local", "shift"};
    private static final String[] OF_ALL = {"choice", "part", "price", "barred", "future", "weight"};

    private static int tellPart(SplitRounds x, int i) {
        switch (i) {
            case 0: return x.join(0, 1);
            case 1: return x.local(0, 1, 50);
            case 2: return x.row(0, 99);
            case 3: return x.weigh(0, 0, true, 0, -1);
            case 4: return x.weigh(0, 0, false, 0, -1);
            default: return x.shift(0, 0, 0, 0);
        }
    }

    private static int tellAll(SplitRounds x, int i) {
        switch (i) {
            case 0: return x.choice(2);
            case 1: return x.part();
            case 2: return x.price(0, 0, 0);
            case 3: return x.price(0, 1, NONE);
            case 4: return x.future(1);
            default: return x.weight(0, 1);
        }
    }

    /** Cuts of both parts, of several rounds, in turn. */
    private static SplitRounds townWithCuts() {
        SplitRounds x = Plans.town();
        x.run(3);
        return x;
    }

    private static void cutsGo() {
        int[] answers = {2, 1, 1, -1, -1, 0};
        for (int i = 0; i < OF_A_PART.length; i++) {
            SplitRounds x = townWithCuts();
            String others = Seen.cutsBut(x, 0);
            due(OF_A_PART[i], tellPart(x, i), answers[i]);
            Sentences.same(OF_A_PART[i], Seen.cuts(x), others);
            Due.holds(OF_A_PART[i] + ": there are others", x.told(1) > 0);
            x.run(1);
            due(OF_A_PART[i] + ": the next come behind them", x.cut(x.told(1) - 1, 5), 0);
        }
        SplitRounds x = townWithCuts();
        String others = Seen.cutsBut(x, 1);
        due("part 1, in future 1 alone", x.shift(1, 1, 0, 0), 0);
        Sentences.same("part 1, in both futures", Seen.cuts(x), others);
    }

    private static void cutsStay() {
        int[] answers = {2, 2, 1, 1, 2, 1};
        for (int i = 0; i < OF_ALL.length; i++) {
            SplitRounds x = townWithCuts();
            String all = Seen.cuts(x);
            int count = x.told(1);
            due(OF_ALL[i], tellAll(x, i), answers[i]);
            due(OF_ALL[i] + ": told(1)", x.told(1), count);
            Sentences.same(OF_ALL[i], Seen.cuts(x), all);
        }
        SplitRounds x = townWithCuts();
        String all = Seen.cuts(x);
        x.price(0, 1, NONE);
        x.price(0, 1, 4);
        Sentences.same("not barred any more", Seen.cuts(x), all);
    }

    private static SplitRounds provedTown() {
        SplitRounds x = Plans.town();
        x.run(50);
        return x;
    }

    private static SplitRounds endedHopeless() {
        SplitRounds x = Plans.hopeless();
        x.local(0, 1, 0);
        x.choice(2);
        x.weigh(0, 0, false, 0, -1);
        x.price(0, 1, NONE);
        x.run(50);
        return x;
    }

    private static void dueNothingFound(String call, SplitRounds x) {
        due(call + ": told(0)", x.told(0), 0);
        due(call + ": told(2)", x.told(2), NONE);
        due(call + ": told(3)", x.told(3), NONE);
        due(call + ": told(8)", x.told(8), 0);
        due(call + ": best(0)", x.best(0), NONE);
        due(call + ": master(0)", x.master(0), NONE);
        due(call + ": share(0)", x.share(0), NONE);
        due(call + ": share(NONE)", x.share(NONE), NONE);
    }

    private static void noEndAnyMore() {
        due("proved", provedTown().told(8), 1);
        due("ended", endedHopeless().told(8), 2);
        due("open", townWithCuts().told(8), 0);
        for (int i = 0; i < OF_A_PART.length; i++) {
            for (SplitRounds x : new SplitRounds[] {provedTown(), endedHopeless(), townWithCuts()}) {
                tellPart(x, i);
                dueNothingFound(OF_A_PART[i], x);
            }
        }
        for (int i = 0; i < OF_ALL.length; i++) {
            for (SplitRounds x : new SplitRounds[] {provedTown(), endedHopeless(), townWithCuts()}) {
                tellAll(x, i);
                dueNothingFound(OF_ALL[i], x);
            }
        }
        SplitRounds x = provedTown();
        x.ask(0, 1);
        due("what is asked for leaves the end as it is", x.told(8), 1);
    }

    private static void roundsAnew() {
        SplitRounds x = Plans.staircase(1);
        x.run(10);
        x.price(0, 0, 0);
        due("told(0)", x.told(0), 0);
        due("run(3)", x.run(3), 2);
        due("told(0)", x.told(0), 3);
        due("the cut of the tenth round", x.cut(9, 5), 9);
        due("the next", x.cut(10, 5), 0);
        due("the last", x.cut(12, 5), 2);
        x.weight(0, 1);
        x.weight(0, 1);
        due("told(0)", x.told(0), 0);
    }

    private static void roundWithoutMaster() {
        SplitRounds x = Plans.hopeless();
        x.run(1);
        due("told(0)", x.told(0), 1);
        x.run(1);
        due("the one without counts", x.told(0), 2);
        x.price(0, 0, 1);
        x.run(1);
        due("with the bar there was, the first is without", x.told(0), 1);
        due("told(8)", x.told(8), 2);
    }
}
