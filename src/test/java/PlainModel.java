import java.util.ArrayList;
import java.util.List;

/**
 * The document once more, in its plainest form: every answer is worked out anew from what was told,
 * without tables and without leaving anything out. The random runs hold SplitRounds against it.
 */
final class PlainModel {
    static final int UNKNOWN = -1, OUTSIDE = -2, ROOM = -3, NONE = -4;

    private static final class PlainPart {
        final List<Integer> joined = new ArrayList<>();
        final List<int[]> locals = new ArrayList<>();
        final List<Integer> limits = new ArrayList<>();
        final int[][] localWeighings = new int[6][4];
        final int[][] choiceWeighings = new int[6][6];
        final int[][] shifts = new int[4][6];
    }

    /** reasons[c] is the value of choice c, or -1. */
    private record PlainCut(int part, int future, int number, int round, int[] reasons) {
        boolean metBy(int[] values) {
            for (int c = 0; c < reasons.length; c++) {
                if (reasons[c] >= 0 && reasons[c] != values[c]) {
                    return false;
                }
            }
            return true;
        }

        int size() {
            int size = 0;
            for (int value : reasons) {
                size += value >= 0 ? 1 : 0;
            }
            return size;
        }
    }

    private final List<int[]> prices = new ArrayList<>();
    private final List<Integer> weights = new ArrayList<>(List.of(1));
    private final List<PlainPart> parts = new ArrayList<>();
    private final List<PlainCut> cuts = new ArrayList<>();
    private final int[] asked = new int[6];
    private int rounds = 0;
    private int lower = NONE;
    private int upper = NONE;
    private int end = 0;
    private int[] master = null;
    private int[] best = null;
    int[] units = null;

    private void restart() {
        rounds = 0;
        lower = NONE;
        upper = NONE;
        end = 0;
        master = null;
        best = null;
    }

    private void retell(int part) {
        cuts.removeIf(cut -> cut.part() == part);
        restart();
    }

    private boolean isChoice(int c) {
        return c >= 0 && c < prices.size();
    }

    private boolean isValue(int c, int v) {
        return isChoice(c) && v >= 0 && v < prices.get(c).length;
    }

    private boolean isFuture(int f) {
        return f >= 0 && f < weights.size();
    }

    private boolean isPart(int p) {
        return p >= 0 && p < parts.size();
    }

    int choice(int n) {
        if (n < 2 || n > 4) return OUTSIDE;
        if (prices.size() == 6) return ROOM;
        prices.add(new int[n]);
        restart();
        return prices.size() - 1;
    }

    int price(int choice, int value, int price) {
        if (!isValue(choice, value)) return UNKNOWN;
        if (price != NONE && (price < 0 || price > 200)) return OUTSIDE;
        prices.get(choice)[value] = price;
        restart();
        return 1;
    }

    int future(int weight) {
        if (weight < 1 || weight > 20) return OUTSIDE;
        if (weights.size() == 4) return ROOM;
        weights.add(weight);
        restart();
        return weights.size() - 1;
    }

    int weight(int future, int weight) {
        if (!isFuture(future)) return UNKNOWN;
        if (weight < 1 || weight > 20) return OUTSIDE;
        int was = weights.set(future, weight);
        restart();
        return was;
    }

    int part() {
        if (parts.size() == 4) return ROOM;
        parts.add(new PlainPart());
        restart();
        return parts.size() - 1;
    }

    int join(int part, int choice) {
        if (!isPart(part) || !isChoice(choice)) return UNKNOWN;
        List<Integer> joined = parts.get(part).joined;
        if (joined.contains(choice)) return NONE;
        if (joined.size() == 3) return ROOM;
        joined.add(choice);
        joined.sort(null);
        retell(part);
        return joined.size();
    }

    int local(int part, int top, int price) {
        if (!isPart(part)) return UNKNOWN;
        if (top < 1 || top > 3 || price < 0 || price > 50) return OUTSIDE;
        if (parts.get(part).locals.size() == 4) return ROOM;
        parts.get(part).locals.add(new int[] {top, price});
        retell(part);
        return parts.get(part).locals.size() - 1;
    }

    int row(int part, int limit) {
        if (!isPart(part)) return UNKNOWN;
        if (limit < -99 || limit > 99) return OUTSIDE;
        if (parts.get(part).limits.size() == 6) return ROOM;
        parts.get(part).limits.add(limit);
        retell(part);
        return parts.get(part).limits.size() - 1;
    }

    int weigh(int part, int row, boolean choice, int which, int v) {
        if (!isPart(part) || row < 0 || row >= parts.get(part).limits.size()) return UNKNOWN;
        PlainPart told = parts.get(part);
        if (choice && !told.joined.contains(which)) return UNKNOWN;
        if (!choice && (which < 0 || which >= told.locals.size())) return UNKNOWN;
        if (v < -9 || v > 9) return OUTSIDE;
        int[] weighings = choice ? told.choiceWeighings[row] : told.localWeighings[row];
        int was = weighings[which];
        weighings[which] = v;
        retell(part);
        return was;
    }

    int shift(int future, int part, int row, int v) {
        if (!isFuture(future) || !isPart(part) || row < 0 || row >= parts.get(part).limits.size()) return UNKNOWN;
        if (v < -99 || v > 99) return OUTSIDE;
        int was = parts.get(part).shifts[future][row];
        parts.get(part).shifts[future][row] = v;
        retell(part);
        return was;
    }

    int run(int n) {
        if (n < 1 || n > 50) return OUTSIDE;
        for (int i = 0; i < n && end == 0; i++) {
            round();
        }
        return end == 1 ? 1 : end == 2 ? 0 : 2;
    }

    int told(int what) {
        int[] all = {rounds, cuts.size(), lower, upper, sumOfWeights(), prices.size(), parts.size(), weights.size(), end};
        return what >= 0 && what < all.length ? all[what] : OUTSIDE;
    }

    int best(int choice) {
        return !isChoice(choice) ? UNKNOWN : best == null ? NONE : best[choice];
    }

    int master(int choice) {
        return !isChoice(choice) ? UNKNOWN : master == null ? NONE : master[choice];
    }

    int share(int part) {
        if (part != NONE && !isPart(part)) return UNKNOWN;
        if (best == null) return NONE;
        if (part == NONE) return costOfValues(best);
        int sum = 0;
        for (int f = 0; f < weights.size(); f++) {
            sum += weights.get(f) * answerOf(part, f, best);
        }
        return sum;
    }

    int ask(int choice, int value) {
        if (!isValue(choice, value)) return UNKNOWN;
        int was = asked[choice];
        asked[choice] = value;
        return was;
    }

    int answer(int part, int future) {
        return !isPart(part) || !isFuture(future) ? UNKNOWN : answerOf(part, future, asked);
    }

    int unit(int part, int future, int i) {
        if (!isPart(part) || !isFuture(future) || i < 0 || i >= parts.get(part).locals.size()) return UNKNOWN;
        return answerOf(part, future, asked) == NONE ? NONE : units[i];
    }

    int cut(int k, int what) {
        if (k < 0 || k >= cuts.size()) return UNKNOWN;
        PlainCut cut = cuts.get(k);
        int[] all = {cut.number() == NONE ? 0 : 1, cut.part(), cut.future(), cut.number(), cut.size(), cut.round(), cut.metBy(asked) ? 1 : 0};
        return what >= 0 && what < all.length ? all[what] : OUTSIDE;
    }

    int reason(int k, int i) {
        if (k < 0 || k >= cuts.size()) return UNKNOWN;
        List<Integer> reasons = new ArrayList<>();
        for (int c = 0; c < 6; c++) {
            if (cuts.get(k).reasons()[c] >= 0) {
                reasons.add(10 * c + cuts.get(k).reasons()[c]);
            }
        }
        return i >= 0 && i < reasons.size() ? reasons.get(i) : NONE;
    }

    int judge() {
        int least = NONE;
        for (int[] plan : allPlans()) {
            int cost = costOf(plan);
            if (cost != NONE && (least == NONE || cost < least)) {
                least = cost;
            }
        }
        return least;
    }

    private int sumOfWeights() {
        int sum = 0;
        for (int weight : weights) {
            sum += weight;
        }
        return sum;
    }

    private int costOfValues(int[] plan) {
        int sum = 0;
        for (int c = 0; c < prices.size(); c++) {
            sum += prices.get(c)[plan[c]];
        }
        return sum * sumOfWeights();
    }

    private int costOf(int[] plan) {
        int sum = costOfValues(plan);
        for (int p = 0; p < parts.size(); p++) {
            for (int f = 0; f < weights.size(); f++) {
                int price = answerOf(p, f, plan);
                if (price == NONE) return NONE;
                sum += weights.get(f) * price;
            }
        }
        return sum;
    }

    /** All values of the choices that are free (-1 in 'from'), barred ones too, by order. */
    private List<int[]> allValues(int[] from) {
        List<int[]> all = new ArrayList<>();
        all.add(new int[6]);
        for (int c = 0; c < prices.size(); c++) {
            List<int[]> longer = new ArrayList<>();
            for (int[] values : all) {
                for (int v = 0; v < prices.get(c).length; v++) {
                    if (from[c] < 0 || from[c] == v) {
                        int[] more = values.clone();
                        more[c] = v;
                        longer.add(more);
                    }
                }
            }
            all = longer;
        }
        return all;
    }

    private List<int[]> allPlans() {
        List<int[]> plans = new ArrayList<>();
        for (int[] values : allValues(new int[] {-1, -1, -1, -1, -1, -1})) {
            boolean barred = false;
            for (int c = 0; c < prices.size(); c++) {
                barred |= prices.get(c)[values[c]] == NONE;
            }
            if (!barred) {
                plans.add(values);
            }
        }
        return plans;
    }

    /** The answer by trying all units in order; the first units with the least price stay in 'units'. */
    private int answerOf(int part, int future, int[] values) {
        PlainPart asked = parts.get(part);
        int count = asked.locals.size();
        int all = 1;
        for (int[] local : asked.locals) {
            all *= local[0] + 1;
        }
        int least = NONE;
        for (int code = 0; code < all; code++) {
            int[] mix = new int[count];
            int rest = code;
            int price = 0;
            for (int i = count - 1; i >= 0; i--) {
                mix[i] = rest % (asked.locals.get(i)[0] + 1);
                rest /= asked.locals.get(i)[0] + 1;
                price += mix[i] * asked.locals.get(i)[1];
            }
            if ((least == NONE || price < least) && rowsHold(asked, future, values, mix)) {
                least = price;
                units = mix;
            }
        }
        return least;
    }

    private static boolean rowsHold(PlainPart part, int future, int[] values, int[] mix) {
        for (int r = 0; r < part.limits.size(); r++) {
            int sum = 0;
            for (int i = 0; i < mix.length; i++) {
                sum += part.localWeighings[r][i] * mix[i];
            }
            for (int c : part.joined) {
                sum += part.choiceWeighings[r][c] * values[c];
            }
            if (sum > part.limits.get(r) + part.shifts[future][r]) {
                return false;
            }
        }
        return true;
    }

    /** The greatest number of the bounds that values meet; NONE if they meet a bar. */
    private int saidByCuts(int part, int future, int[] values) {
        int most = 0;
        for (PlainCut cut : cuts) {
            if (cut.part() == part && cut.future() == future && cut.metBy(values)) {
                if (cut.number() == NONE) return NONE;
                most = Math.max(most, cut.number());
            }
        }
        return most;
    }

    private int costByCuts(int[] plan) {
        int sum = costOfValues(plan);
        for (int p = 0; p < parts.size(); p++) {
            for (int f = 0; f < weights.size(); f++) {
                int said = saidByCuts(p, f, plan);
                if (said == NONE) return NONE;
                sum += weights.get(f) * said;
            }
        }
        return sum;
    }

    private void round() {
        master = null;
        lower = NONE;
        for (int[] plan : allPlans()) {
            int cost = costByCuts(plan);
            if (cost != NONE && (lower == NONE || cost < lower)) {
                lower = cost;
                master = plan;
            }
        }
        if (master == null) {
            end = 2;
        } else {
            ask();
            int cost = costOf(master);
            if (cost != NONE && (upper == NONE || cost < upper)) {
                upper = cost;
                best = master;
            }
            if (upper != NONE && lower >= upper) {
                end = 1;
            }
        }
        rounds++;
    }

    private void ask() {
        for (int p = 0; p < parts.size(); p++) {
            for (int f = 0; f < weights.size(); f++) {
                int price = answerOf(p, f, master);
                int had = saidByCuts(p, f, master);
                if ((price == NONE || price > had) && cuts.size() < 200) {
                    cuts.add(new PlainCut(p, f, price, rounds, reasonsFor(p, f, price)));
                }
            }
        }
    }

    private int[] reasonsFor(int part, int future, int number) {
        int[] reasons = {-1, -1, -1, -1, -1, -1};
        for (int c : parts.get(part).joined) {
            reasons[c] = master[c];
        }
        for (int c : parts.get(part).joined) {
            reasons[c] = -1;
            if (!isTrue(part, future, number, reasons)) {
                reasons[c] = master[c];
            }
        }
        return reasons;
    }

    private boolean isTrue(int part, int future, int number, int[] reasons) {
        int[] from = new int[6];
        for (int c : parts.get(part).joined) {
            from[c] = reasons[c];
        }
        for (int[] values : allValues(from)) {
            int price = answerOf(part, future, values);
            if (price != NONE && (number == NONE || price < number)) {
                return false;
            }
        }
        return true;
    }
}
