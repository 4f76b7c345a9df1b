import java.util.Arrays;

/**
 * A plan split in two: choices made in common, and parts that answer by themselves what a choice
 * costs them, in several futures with odds. What parts answer comes back as cuts, and rounds of
 * choosing and asking go on until the best plan is proved, or none can be.
 */
public final class SplitRounds {
    public static final int UNKNOWN = -1, OUTSIDE = -2, ROOM = -3, NONE = -4;

    private static final int MOST_CHOICES = 6;
    private static final int FEWEST_VALUES = 2;
    private static final int MOST_VALUES = 4;
    private static final int DEAREST_VALUE = 200;
    private static final int MOST_FUTURES = 4;
    private static final int HEAVIEST = 20;
    private static final int MOST_PARTS = 4;
    private static final int MOST_JOINED = 3;
    private static final int MOST_LOCALS = 4;
    private static final int HIGHEST_TOP = 3;
    private static final int DEAREST_UNIT = 50;
    private static final int MOST_ROWS = 6;
    private static final int WIDEST_WEIGHING = 9;
    private static final int WIDEST_LIMIT = 99;
    private static final int MOST_CUTS = 200;
    private static final int MOST_ROUNDS = 50;

    /** A spot is one number for the values of all choices that a part is joined to, two bits each. */
    private static final int VALUE_BITS = 2;
    private static final int VALUE_MASK = 3;
    private static final int SPOTS = 64;
    /** No more plans, and no more mixes of locals, than these can be. */
    private static final int MOST_PLANS = 4096;
    private static final int MOST_MIXES = 256;

    /** A row weighs its locals in the first columns, and all choices in those behind them. */
    private static final int COLUMNS = MOST_LOCALS + MOST_CHOICES;

    private static final int UNSOLVED = -9;
    private static final int FREE = -1;

    private static final int OPEN = 0, PROVED = 1, IMPOSSIBLE = 2;

    private final Choices choices = new Choices();
    private final Futures futures = new Futures();
    private final Part[] parts = new Part[MOST_PARTS];
    private int partCount;
    private final Cuts cuts = new Cuts();
    private final Progress progress = new Progress();

    /** The search for the least plan: the plan looked at, what it spent ahead of each stage, the least. */
    private final int[] tried = new int[MOST_CHOICES];
    private final int[] spentAhead = new int[MOST_CHOICES + 1];
    private final int[] least = new int[MOST_CHOICES];
    private int leastCost = NONE;

    public SplitRounds() {
        for (int p = 0; p < MOST_PARTS; p++) {
            parts[p] = new Part();
        }
    }

    // ---- what there is

    public int choice(int n) {
        if (n < FEWEST_VALUES || n > MOST_VALUES) {
            return OUTSIDE;
        }
        if (choices.count >= MOST_CHOICES) {
            return ROOM;
        }
        choices.sizes[choices.count] = n;
        choices.count++;
        progress.restart();
        return choices.count - 1;
    }

    public int price(int choice, int value, int price) {
        if (!choices.knowsValue(choice, value)) {
            return UNKNOWN;
        }
        if (price != NONE && (price < 0 || price > DEAREST_VALUE)) {
            return OUTSIDE;
        }
        choices.prices[choice * MOST_VALUES + value] = price;
        progress.restart();
        return 1;
    }

    public int future(int weight) {
        if (!isWeight(weight)) {
            return OUTSIDE;
        }
        if (futures.count >= MOST_FUTURES) {
            return ROOM;
        }
        futures.weights[futures.count] = weight;
        futures.count++;
        progress.restart();
        return futures.count - 1;
    }

    public int weight(int future, int weight) {
        if (!futures.knows(future)) {
            return UNKNOWN;
        }
        if (!isWeight(weight)) {
            return OUTSIDE;
        }
        int was = futures.weights[future];
        futures.weights[future] = weight;
        progress.restart();
        return was;
    }

    public int part() {
        if (partCount >= MOST_PARTS) {
            return ROOM;
        }
        partCount++;
        progress.restart();
        return partCount - 1;
    }

    public int join(int part, int choice) {
        if (!knowsPart(part) || !choices.knows(choice)) {
            return UNKNOWN;
        }
        if (parts[part].isJoinedTo(choice)) {
            return NONE;
        }
        if (parts[part].joinedCount >= MOST_JOINED) {
            return ROOM;
        }
        parts[part].joinTo(choice, choices.sizes[choice]);
        retell(part);
        return parts[part].joinedCount;
    }

    public int local(int part, int top, int price) {
        if (!knowsPart(part)) {
            return UNKNOWN;
        }
        if (top < 1 || top > HIGHEST_TOP || price < 0 || price > DEAREST_UNIT) {
            return OUTSIDE;
        }
        Part here = parts[part];
        if (here.localCount >= MOST_LOCALS) {
            return ROOM;
        }
        here.tops[here.localCount] = top;
        here.unitPrices[here.localCount] = price;
        here.localCount++;
        retell(part);
        return here.localCount - 1;
    }

    public int row(int part, int limit) {
        if (!knowsPart(part)) {
            return UNKNOWN;
        }
        if (!isWithin(limit, WIDEST_LIMIT)) {
            return OUTSIDE;
        }
        Part here = parts[part];
        if (here.rowCount >= MOST_ROWS) {
            return ROOM;
        }
        here.limits[here.rowCount] = limit;
        here.rowCount++;
        retell(part);
        return here.rowCount - 1;
    }

    public int weigh(int part, int row, boolean choice, int which, int v) {
        if (!knowsRow(part, row)) {
            return UNKNOWN;
        }
        Part here = parts[part];
        if (choice ? !here.isJoinedTo(which) : !here.knowsLocal(which)) {
            return UNKNOWN;
        }
        if (!isWithin(v, WIDEST_WEIGHING)) {
            return OUTSIDE;
        }
        int at = row * COLUMNS + (choice ? MOST_LOCALS + which : which);
        int was = here.weighings[at];
        here.weighings[at] = v;
        retell(part);
        return was;
    }

    public int shift(int future, int part, int row, int v) {
        if (!futures.knows(future) || !knowsRow(part, row)) {
            return UNKNOWN;
        }
        if (!isWithin(v, WIDEST_LIMIT)) {
            return OUTSIDE;
        }
        int at = future * MOST_ROWS + row;
        int was = parts[part].shifts[at];
        parts[part].shifts[at] = v;
        retell(part);
        return was;
    }

    // ---- rounds

    public int run(int n) {
        if (n < 1 || n > MOST_ROUNDS) {
            return OUTSIDE;
        }
        for (int i = 0; i < n && progress.end == OPEN; i++) {
            int cutsBefore = cuts.count;
            findLeast(true);
            progress.takeMaster(least, leastCost);
            if (progress.hasMaster()) {
                progress.takeCost(hearParts());
            }
            progress.rounds++;
            if (progress.end == OPEN && cuts.count == cutsBefore) {
                // There is no room for cuts any more: all further rounds would be this one again.
                progress.rounds += n - 1 - i;
                break;
            }
        }
        return progress.end == PROVED ? 1 : progress.end == IMPOSSIBLE ? 0 : 2;
    }

    public int told(int what) {
        switch (what) {
            case 0: return progress.rounds;
            case 1: return cuts.count;
            case 2: return progress.lower;
            case 3: return progress.upper;
            case 4: return futures.sumOfWeights();
            case 5: return choices.count;
            case 6: return partCount;
            case 7: return futures.count;
            case 8: return progress.end;
            default: return OUTSIDE;
        }
    }

    public int best(int choice) {
        if (!choices.knows(choice)) {
            return UNKNOWN;
        }
        return progress.hasBest() ? progress.best[choice] : NONE;
    }

    public int master(int choice) {
        if (!choices.knows(choice)) {
            return UNKNOWN;
        }
        return progress.hasMaster() ? progress.master[choice] : NONE;
    }

    public int share(int part) {
        if (part != NONE && !knowsPart(part)) {
            return UNKNOWN;
        }
        if (!progress.hasBest()) {
            return NONE;
        }
        return part == NONE ? costOfValues(progress.best) : parts[part].costTo(progress.best, futures, false);
    }

    // ---- what is asked

    public int ask(int choice, int value) {
        if (!choices.knowsValue(choice, value)) {
            return UNKNOWN;
        }
        int was = choices.asked[choice];
        choices.asked[choice] = value;
        return was;
    }

    public int answer(int part, int future) {
        if (!knowsPart(part) || !futures.knows(future)) {
            return UNKNOWN;
        }
        return parts[part].answerTo(parts[part].spotOf(choices.asked), future);
    }

    public int unit(int part, int future, int i) {
        if (!knowsPart(part) || !futures.knows(future) || !parts[part].knowsLocal(i)) {
            return UNKNOWN;
        }
        int price = parts[part].solve(parts[part].spotOf(choices.asked), future);
        return price == NONE ? NONE : parts[part].leastUnits[i];
    }

    public int cut(int k, int what) {
        if (!cuts.knows(k)) {
            return UNKNOWN;
        }
        switch (what) {
            case 0: return cuts.numbers[k] == NONE ? 0 : 1;
            case 1: return cuts.parts[k];
            case 2: return cuts.futures[k];
            case 3: return cuts.numbers[k];
            case 4: return cuts.sizes[k];
            case 5: return cuts.rounds[k];
            case 6: return cuts.isMetBy(k, choices.asked) ? 1 : 0;
            default: return OUTSIDE;
        }
    }

    public int reason(int k, int i) {
        if (!cuts.knows(k)) {
            return UNKNOWN;
        }
        return i < 0 || i >= cuts.sizes[k] ? NONE : cuts.reasons[k * MOST_JOINED + i];
    }

    public int judge() {
        findLeast(false);
        return leastCost;
    }

    // ---- what the calls share

    private static boolean isWeight(int weight) {
        return weight >= 1 && weight <= HEAVIEST;
    }

    private static boolean isWithin(int v, int widest) {
        return v >= -widest && v <= widest;
    }

    private boolean knowsPart(int p) {
        return p >= 0 && p < partCount;
    }

    private boolean knowsRow(int p, int row) {
        return knowsPart(p) && row >= 0 && row < parts[p].rowCount;
    }

    /** Something else is told of a part: nothing that was found out about it holds any more. */
    private void retell(int p) {
        parts[p].forget();
        cuts.takeAway(p);
        progress.restart();
    }

    private int costOfValues(int[] plan) {
        int sum = 0;
        for (int c = 0; c < choices.count; c++) {
            sum += choices.prices[c * MOST_VALUES + plan[c]];
        }
        return sum * futures.sumOfWeights();
    }

    /** All parts answer to the master, and cuts come: what the master costs, NONE if it isn't possible. */
    private int hearParts() {
        int[] plan = progress.master;
        int cost = costOfValues(plan);
        boolean possible = true;
        for (int p = 0; p < partCount; p++) {
            int spot = parts[p].spotOf(plan);
            for (int f = 0; f < futures.count; f++) {
                int price = parts[p].answerTo(spot, f);
                if (price == NONE || price > parts[p].floors[f * SPOTS + spot]) {
                    bringCut(p, f, spot, price);
                }
                if (price == NONE) {
                    possible = false;
                } else {
                    cost += futures.weights[f] * price;
                }
            }
        }
        return possible ? cost : NONE;
    }

    private void bringCut(int p, int f, int spot, int number) {
        if (cuts.count >= MOST_CUTS) {
            return;
        }
        parts[p].findReasons(spot, f, number);
        parts[p].raiseFloors(f, number);
        cuts.add(p, f, number, progress.rounds, parts[p]);
    }

    /**
     * Finds the first of the plans that cost least, with what parts answer, or with what cuts say of
     * it. A plan is followed stage by stage, and left as soon as it can't win any more, together with
     * all plans that have the same values up to there.
     */
    private void findLeast(boolean byCuts) {
        leastCost = NONE;
        Arrays.fill(tried, 0);
        int stage = 0;
        boolean more = true;
        for (int step = 0; step < MOST_PLANS && more; step++) {
            stage = moveOn(followTried(stage, byCuts));
            more = stage > 0;
        }
    }

    /** Follows the tried plan from a stage on, and keeps it if it wins: the last stage looked at. */
    private int followTried(int from, boolean byCuts) {
        int spent = spentAhead[from];
        for (int stage = from; stage <= choices.count; stage++) {
            spentAhead[stage] = spent;
            int cost = costOfStage(stage, byCuts);
            if (cost == NONE) {
                return stage;
            }
            spent += cost;
            if (leastCost != NONE && spent >= leastCost) {
                return stage;
            }
        }
        leastCost = spent;
        System.arraycopy(tried, 0, least, 0, MOST_CHOICES);
        return choices.count;
    }

    /** What comes with the choice ahead of a stage: its price, and all parts that are then settled. */
    private int costOfStage(int stage, boolean byCuts) {
        int sum = 0;
        if (stage > 0) {
            int price = choices.prices[(stage - 1) * MOST_VALUES + tried[stage - 1]];
            if (price == NONE) {
                return NONE;
            }
            sum = price * futures.sumOfWeights();
        }
        for (int p = 0; p < partCount; p++) {
            if (parts[p].settledAt() == stage) {
                int cost = parts[p].costTo(tried, futures, byCuts);
                if (cost == NONE) {
                    return NONE;
                }
                sum += cost;
            }
        }
        return sum;
    }

    /**
     * The next plan by order that differs at a stage or ahead of it: where it does, 0 if there is none.
     * Values behind the last stage are 0 already: a plan is never left ahead of the value raised latest.
     */
    private int moveOn(int last) {
        for (int stage = last; stage > 0; stage--) {
            if (tried[stage - 1] + 1 < choices.sizes[stage - 1]) {
                tried[stage - 1]++;
                return stage;
            }
            tried[stage - 1] = 0;
        }
        return 0;
    }

    /** The choices, the prices of their values (NONE: barred), and the values that are asked for. */
    private static final class Choices {
        int count;
        final int[] sizes = new int[MOST_CHOICES];
        final int[] prices = new int[MOST_CHOICES * MOST_VALUES];
        final int[] asked = new int[MOST_CHOICES];

        boolean knows(int c) {
            return c >= 0 && c < count;
        }

        boolean knowsValue(int c, int v) {
            return knows(c) && v >= 0 && v < sizes[c];
        }
    }

    /** The futures and their weights. */
    private static final class Futures {
        int count = 1;
        final int[] weights = new int[MOST_FUTURES];

        Futures() {
            weights[0] = 1;
        }

        boolean knows(int f) {
            return f >= 0 && f < count;
        }

        int sumOfWeights() {
            int sum = 0;
            for (int f = 0; f < count; f++) {
                sum += weights[f];
            }
            return sum;
        }
    }

    /** How far the rounds have come since something was told. */
    private static final class Progress {
        int rounds;
        int end = OPEN;
        int lower = NONE;
        int upper = NONE;
        final int[] master = new int[MOST_CHOICES];
        final int[] best = new int[MOST_CHOICES];

        void restart() {
            rounds = 0;
            end = OPEN;
            lower = NONE;
            upper = NONE;
        }

        boolean hasMaster() {
            return lower != NONE;
        }

        boolean hasBest() {
            return upper != NONE;
        }

        void takeMaster(int[] plan, int costByCuts) {
            lower = costByCuts;
            if (costByCuts == NONE) {
                end = IMPOSSIBLE;
            } else {
                System.arraycopy(plan, 0, master, 0, MOST_CHOICES);
            }
        }

        void takeCost(int cost) {
            if (cost != NONE && (upper == NONE || cost < upper)) {
                upper = cost;
                System.arraycopy(master, 0, best, 0, MOST_CHOICES);
            }
            if (upper != NONE && lower >= upper) {
                end = PROVED;
            }
        }
    }

    /** The cuts, each over one place of all these rows. */
    private static final class Cuts {
        int count;
        final int[] parts = new int[MOST_CUTS];
        final int[] futures = new int[MOST_CUTS];
        final int[] numbers = new int[MOST_CUTS];
        final int[] rounds = new int[MOST_CUTS];
        final int[] sizes = new int[MOST_CUTS];
        final int[] reasons = new int[MOST_CUTS * MOST_JOINED];

        boolean knows(int k) {
            return k >= 0 && k < count;
        }

        void add(int p, int f, int number, int round, Part from) {
            parts[count] = p;
            futures[count] = f;
            numbers[count] = number;
            rounds[count] = round;
            int size = 0;
            for (int j = 0; j < from.joinedCount; j++) {
                if (from.held[j] != FREE) {
                    reasons[count * MOST_JOINED + size] = 10 * from.joined[j] + from.held[j];
                    size++;
                }
            }
            sizes[count] = size;
            count++;
        }

        boolean isMetBy(int k, int[] values) {
            for (int i = 0; i < sizes[k]; i++) {
                int reason = reasons[k * MOST_JOINED + i];
                if (values[reason / 10] != reason % 10) {
                    return false;
                }
            }
            return true;
        }

        void takeAway(int p) {
            int kept = 0;
            for (int k = 0; k < count; k++) {
                if (parts[k] != p) {
                    move(k, kept);
                    kept++;
                }
            }
            count = kept;
        }

        void move(int from, int to) {
            parts[to] = parts[from];
            futures[to] = futures[from];
            numbers[to] = numbers[from];
            rounds[to] = rounds[from];
            sizes[to] = sizes[from];
            for (int i = 0; i < MOST_JOINED; i++) {
                reasons[to * MOST_JOINED + i] = reasons[from * MOST_JOINED + i];
            }
        }
    }

    /** A part: what is told of it, what it answered so far, and what its cuts say. */
    private static final class Part {
        int joinedCount;
        /** By rising numbers, so that reasons come by rising numbers too. */
        final int[] joined = new int[MOST_JOINED];
        final int[] joinedSizes = new int[MOST_JOINED];
        int localCount;
        final int[] tops = new int[MOST_LOCALS];
        final int[] unitPrices = new int[MOST_LOCALS];
        int rowCount;
        final int[] limits = new int[MOST_ROWS];
        final int[] weighings = new int[MOST_ROWS * COLUMNS];
        final int[] shifts = new int[MOST_FUTURES * MOST_ROWS];

        /** For each future and spot: the answer, and the most that a bound says of it (NONE: a bar). */
        final int[] answers = new int[MOST_FUTURES * SPOTS];
        final int[] floors = new int[MOST_FUTURES * SPOTS];

        /** Of the latest answer that was solved: what locals may sum up to in each row; its units. */
        final int[] rooms = new int[MOST_ROWS];
        final int[] units = new int[MOST_LOCALS];
        final int[] leastUnits = new int[MOST_LOCALS];

        /** Of the latest cut: the value of each joined choice, FREE if it is no reason. */
        final int[] held = new int[MOST_JOINED];

        Part() {
            Arrays.fill(answers, UNSOLVED);
        }

        void forget() {
            Arrays.fill(answers, UNSOLVED);
            Arrays.fill(floors, 0);
        }

        boolean isJoinedTo(int c) {
            for (int j = 0; j < joinedCount; j++) {
                if (joined[j] == c) {
                    return true;
                }
            }
            return false;
        }

        boolean knowsLocal(int i) {
            return i >= 0 && i < localCount;
        }

        void joinTo(int c, int size) {
            int at = joinedCount;
            for (; at > 0 && joined[at - 1] > c; at--) {
                joined[at] = joined[at - 1];
                joinedSizes[at] = joinedSizes[at - 1];
            }
            joined[at] = c;
            joinedSizes[at] = size;
            joinedCount++;
        }

        /** The stage of a plan at which all choices that the part is joined to have values. */
        int settledAt() {
            return joinedCount == 0 ? 0 : joined[joinedCount - 1] + 1;
        }

        int spotOf(int[] values) {
            int spot = 0;
            for (int j = 0; j < joinedCount; j++) {
                spot |= values[joined[j]] << (j * VALUE_BITS);
            }
            return spot;
        }

        /** What the part costs in all futures, with its answers or with what its cuts say of them. */
        int costTo(int[] values, Futures futures, boolean byCuts) {
            int spot = spotOf(values);
            int sum = 0;
            for (int f = 0; f < futures.count; f++) {
                int price = byCuts ? floors[f * SPOTS + spot] : answerTo(spot, f);
                if (price == NONE) {
                    return NONE;
                }
                sum += futures.weights[f] * price;
            }
            return sum;
        }

        int answerTo(int spot, int f) {
            int at = f * SPOTS + spot;
            if (answers[at] == UNSOLVED) {
                answers[at] = solve(spot, f);
            }
            return answers[at];
        }

        /** The least price with which all rows hold, and the first units that have it; NONE. */
        int solve(int spot, int f) {
            measureRooms(spot, f);
            Arrays.fill(units, 0);
            int leastPrice = NONE;
            boolean more = true;
            for (int step = 0; step < MOST_MIXES && more; step++) {
                int price = priceOfUnits();
                boolean tooDear = leastPrice != NONE && price >= leastPrice;
                if (!tooDear && rowsHold()) {
                    leastPrice = price;
                    System.arraycopy(units, 0, leastUnits, 0, MOST_LOCALS);
                    tooDear = true;
                }
                more = raiseFrom(tooDear ? clearLastUsed() - 1 : localCount - 1);
            }
            return leastPrice;
        }

        void measureRooms(int spot, int f) {
            for (int r = 0; r < rowCount; r++) {
                int room = limits[r] + shifts[f * MOST_ROWS + r];
                for (int j = 0; j < joinedCount; j++) {
                    int value = (spot >> (j * VALUE_BITS)) & VALUE_MASK;
                    room -= weighings[r * COLUMNS + MOST_LOCALS + joined[j]] * value;
                }
                rooms[r] = room;
            }
        }

        int priceOfUnits() {
            int sum = 0;
            for (int i = 0; i < localCount; i++) {
                sum += units[i] * unitPrices[i];
            }
            return sum;
        }

        boolean rowsHold() {
            for (int r = 0; r < rowCount; r++) {
                int sum = 0;
                for (int i = 0; i < localCount; i++) {
                    sum += weighings[r * COLUMNS + i] * units[i];
                }
                if (sum > rooms[r]) {
                    return false;
                }
            }
            return true;
        }

        /** More of the last local in use, or of those behind it, can't cost less: it is set to 0; where it is. */
        int clearLastUsed() {
            int i = localCount - 1;
            while (i > 0 && units[i] == 0) {
                i--;
            }
            if (i >= 0) {
                units[i] = 0;
            }
            return i;
        }

        /** The next units by order that differ at a local or ahead of it; all behind it are 0. */
        boolean raiseFrom(int last) {
            for (int i = last; i >= 0; i--) {
                if (units[i] < tops[i]) {
                    units[i]++;
                    return true;
                }
                units[i] = 0;
            }
            return false;
        }

        /** Holds the fewest reasons for a cut; each is tried without those left out before. */
        void findReasons(int spot, int f, int number) {
            for (int j = 0; j < joinedCount; j++) {
                held[j] = (spot >> (j * VALUE_BITS)) & VALUE_MASK;
            }
            for (int j = 0; j < joinedCount; j++) {
                int value = held[j];
                held[j] = FREE;
                if (!isTrue(f, number)) {
                    held[j] = value;
                }
            }
        }

        /** Whether a cut with the held reasons is true: a bar, if its number is NONE. */
        boolean isTrue(int f, int number) {
            int spots = 1 << (joinedCount * VALUE_BITS);
            for (int spot = 0; spot < spots; spot++) {
                if (meets(spot)) {
                    int price = answerTo(spot, f);
                    if (price != NONE && (number == NONE || price < number)) {
                        return false;
                    }
                }
            }
            return true;
        }

        /** Whether a spot is of values that there are, and has all that is held. */
        boolean meets(int spot) {
            for (int j = 0; j < joinedCount; j++) {
                int value = (spot >> (j * VALUE_BITS)) & VALUE_MASK;
                if (value >= joinedSizes[j] || (held[j] != FREE && held[j] != value)) {
                    return false;
                }
            }
            return true;
        }

        void raiseFloors(int f, int number) {
            int spots = 1 << (joinedCount * VALUE_BITS);
            for (int spot = 0; spot < spots; spot++) {
                int at = f * SPOTS + spot;
                if (meets(spot) && floors[at] != NONE && (number == NONE || number > floors[at])) {
                    floors[at] = number;
                }
            }
        }
    }
}
