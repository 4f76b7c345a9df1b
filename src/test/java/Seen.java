/** All that can be seen of an object, as one text, to hold two objects against one another. */
final class Seen {
    /** Of more cuts only the first are looked at: an object answers 512 calls. */
    private static final int CUTS = 12;

    private Seen() {
    }

    /** What can be seen without telling or asking anything. */
    static String all(SplitRounds x) {
        StringBuilder seen = new StringBuilder(rounds(x));
        for (int p = 0; p < x.told(6); p++) {
            for (int f = 0; f < x.told(7); f++) {
                seen.append(" answer ").append(p).append(' ').append(f).append(": ").append(x.answer(p, f));
                for (int i = 0; i < 4; i++) {
                    seen.append(' ').append(x.unit(p, f, i));
                }
            }
        }
        return seen.append(cuts(x)).append(" judge: ").append(x.judge()).toString();
    }

    static String rounds(SplitRounds x) {
        StringBuilder seen = new StringBuilder("told:");
        for (int i = 0; i <= 8; i++) {
            seen.append(' ').append(x.told(i));
        }
        seen.append(" best, master:");
        for (int c = 0; c < x.told(5); c++) {
            seen.append(' ').append(x.best(c)).append(' ').append(x.master(c));
        }
        seen.append(" shares: ").append(x.share(SplitRounds.NONE));
        for (int p = 0; p < x.told(6); p++) {
            seen.append(' ').append(x.share(p));
        }
        return seen.toString();
    }

    static String cuts(SplitRounds x) {
        StringBuilder seen = new StringBuilder();
        for (int k = 0; k < Math.min(CUTS, x.told(1)); k++) {
            seen.append(cut(x, k));
        }
        return seen.toString();
    }

    /** The cuts of all parts but one. */
    static String cutsBut(SplitRounds x, int part) {
        StringBuilder seen = new StringBuilder();
        for (int k = 0; k < Math.min(CUTS, x.told(1)); k++) {
            seen.append(x.cut(k, 1) == part ? "" : cut(x, k));
        }
        return seen.toString();
    }

    private static String cut(SplitRounds x, int k) {
        StringBuilder seen = new StringBuilder(" cut:");
        for (int what = 0; what <= 6; what++) {
            seen.append(' ').append(x.cut(k, what));
        }
        for (int i = 0; i < 3; i++) {
            seen.append(' ').append(x.reason(k, i));
        }
        return seen.toString();
    }

    /** What is told of parts 0 and 1, futures 0 and 1, and asked for; it is told anew to be read. */
    static String settings(SplitRounds x) {
        StringBuilder seen = new StringBuilder("settings:");
        for (int f = 0; f < 2; f++) {
            seen.append(' ').append(x.weight(f, 1));
        }
        for (int p = 0; p < 2; p++) {
            for (int r = 0; r < 2; r++) {
                for (int n = 0; n < 2; n++) {
                    seen.append(' ').append(x.weigh(p, r, true, n, 0)).append(' ').append(x.weigh(p, r, false, n, 0));
                    seen.append(' ').append(x.shift(n, p, r, 0));
                }
            }
        }
        for (int c = 0; c < x.told(5); c++) {
            seen.append(' ').append(x.ask(c, 0));
        }
        return seen.toString();
    }
}
