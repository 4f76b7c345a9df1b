/** Objects with something told, for several tests. */
final class Plans {
    private Plans() {
    }

    /** One choice of 0 to 2 (prices 0, 4, 9); the part needs 2 in all, and buys what lacks at 10 each. */
    static SplitRounds shop() {
        SplitRounds x = new SplitRounds();
        x.choice(3);
        x.price(0, 1, 4);
        x.price(0, 2, 9);
        x.part();
        x.join(0, 0);
        x.local(0, 3, 10);
        x.row(0, -2);
        x.weigh(0, 0, true, 0, -1);
        x.weigh(0, 0, false, 0, -1);
        return x;
    }

    /**
     * The shop in two futures (weights 1 and 5; the second needs 3), and a part at a second choice of
     * 0 or 1 (prices 0, 3), that needs 1 and buys it at 6. The first master is 0, 0 and brings four
     * cuts: 20 and 30 of part 0, 6 and 6 of part 1; it costs 206. The best is 2, 1: 122.
     */
    static SplitRounds town() {
        SplitRounds x = shop();
        x.future(5);
        x.shift(1, 0, 0, -1);
        x.choice(2);
        x.price(1, 1, 3);
        x.part();
        x.join(1, 1);
        x.local(1, 1, 6);
        x.row(1, -1);
        x.weigh(1, 0, true, 1, -1);
        x.weigh(1, 0, false, 0, -1);
        return x;
    }

    /** As much of everything as there can be; no row stands in the way of anything. */
    static SplitRounds fullTown() {
        SplitRounds x = new SplitRounds();
        for (int c = 0; c < 6; c++) {
            x.choice(4);
        }
        for (int f = 1; f < 4; f++) {
            x.future(20);
        }
        for (int p = 0; p < 4; p++) {
            x.part();
            for (int j = 0; j < 3; j++) {
                x.join(p, (p + 2 * j) % 6);
            }
            for (int i = 0; i < 4; i++) {
                x.local(p, 3, 50);
            }
            for (int r = 0; r < 6; r++) {
                x.row(p, 99);
            }
        }
        return x;
    }

    /** Two values, of which none can be: the part needs 2 of a choice that has 0 and 1. */
    static SplitRounds hopeless() {
        SplitRounds x = new SplitRounds();
        x.choice(2);
        x.part();
        x.join(0, 0);
        x.row(0, -2);
        x.weigh(0, 0, true, 0, -1);
        return x;
    }

    /**
     * Three choices of 0 to 3 for nothing; a part answers 9 - their sum, at 1 for each unit. So the plans
     * are masters one by one, by order, and each but the last, 3, 3, 3, brings a bound of each part:
     * 64 rounds, and 63 cuts of each part.
     */
    static SplitRounds staircase(int parts) {
        SplitRounds x = new SplitRounds();
        for (int c = 0; c < 3; c++) {
            x.choice(4);
        }
        for (int p = 0; p < parts; p++) {
            x.part();
            x.row(p, -9);
            for (int i = 0; i < 3; i++) {
                x.join(p, i);
                x.local(p, 3, 1);
                x.weigh(p, 0, true, i, -1);
                x.weigh(p, 0, false, i, -1);
            }
        }
        return x;
    }

    /**
     * Three choices of 0 to 3 for nothing, four futures and four parts that all answer
     * 15 - first - 4 * second - third (or 0). Each round brings 16 cuts, and the thirteenth, with the
     * master 0, 3, 0 and the answer 3, has room for eight of them.
     */
    static SplitRounds crowd() {
        SplitRounds x = new SplitRounds();
        int[] weighings = {-1, -4, -1};
        for (int c = 0; c < 3; c++) {
            x.choice(4);
        }
        for (int f = 1; f < 4; f++) {
            x.future(1);
        }
        for (int p = 0; p < 4; p++) {
            x.part();
            x.row(p, -15);
            x.local(p, 3, 1);
            x.local(p, 3, 4);
            x.weigh(p, 0, false, 0, -1);
            x.weigh(p, 0, false, 1, -4);
            for (int c = 0; c < 3; c++) {
                x.join(p, c);
                x.weigh(p, 0, true, c, weighings[c]);
            }
        }
        return x;
    }

    /** Each plan costs at least 7 in each part and future, but a cut says so of few values only. */
    static SplitRounds endless() {
        SplitRounds x = new SplitRounds();
        for (int c = 0; c < 6; c++) {
            x.choice(4);
        }
        for (int f = 1; f < 4; f++) {
            x.future(1);
        }
        for (int p = 0; p < 4; p++) {
            x.part();
            for (int j = 0; j < 3; j++) {
                x.join(p, (p + j) % 6);
            }
            x.row(p, -9);
            x.row(p, 0);
            for (int i = 0; i < 4; i++) {
                x.local(p, 3, 7 + 3 * i);
                x.weigh(p, 0, false, i, -1 - i);
                x.weigh(p, 1, false, i, i - 1);
            }
            for (int j = 0; j < 3; j++) {
                x.weigh(p, 0, true, (p + j) % 6, 3 - j * 2);
                x.weigh(p, 1, true, (p + j) % 6, j * 2 - 3);
            }
        }
        return x;
    }
}
