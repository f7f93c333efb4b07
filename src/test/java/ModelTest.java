/** Long runs of mixed calls, good and bad: every answer must be the one that the model gives. */
public final class ModelTest {
    private static final int RUNS = 1000;
    // Leaves room for the closing questions below the 512 calls that an object is promised for.
    private static final int MIXED_CALLS = 400;
    private static final int[] EXTREMES = {0, 1, -1, Integer.MAX_VALUE, Integer.MIN_VALUE};

    private final SyntheticChain x = new SyntheticChain();
    private final Model m = new Model();
    private final int run;
    private int calls = 0;
    // A generator of our own with a fixed start, so that the test is the same each time.
    private long seed;

    private ModelTest(int run) {
        this.run = run;
        this.seed = run * 7919L;
    }

    public static void main(String[] args) {
        for (int run = 1; run <= RUNS; run++) {
            ModelTest test = new ModelTest(run);
            test.mixedCalls();
            test.closingQuestions();
        }
        Due.end();
    }

    private void mixedCalls() {
        while (calls < MIXED_CALLS) {
            if (below(3) == 0) {
                ask(below(11), point(), point(), file());
            } else {
                act();
            }
        }
    }

    private void closingQuestions() {
        int p = point();
        for (int f = 0; f < 16; f++) {
            ask(3, p, p, f);
            ask(4, p, p, f);
            ask(5, p, p, f);
            ask(6, p, p, f);
            ask(9, p, p, f);
        }
        for (int q = 0; q < m.points(); q++) {
            ask(7, p, q, 0);
        }
        ask(0, p, p, 0);
        ask(1, p, p, 0);
        ask(2, p, p, 0);
        ask(8, p, p, 0);
        ask(10, p, p, 0);
    }

    private int below(int bound) {
        seed = seed * 6364136223846793005L + 1442695040888963407L;
        return (int) ((seed >>> 33) % bound);
    }

    private int outside(int bound) {
        int[] choices = {-1, bound, Integer.MAX_VALUE, Integer.MIN_VALUE};
        return choices[below(choices.length)];
    }

    private int file() {
        return below(25) == 0 ? outside(16) : below(16);
    }

    private int point() {
        return m.points() == 0 || below(12) == 0 ? outside(m.points()) : below(m.points());
    }

    // Few values, so that equal contents and 0 come often.
    private int value() {
        return below(4) == 0 ? EXTREMES[below(EXTREMES.length)] : below(5) - 1;
    }

    private int days() {
        return below(8) == 0 ? below(64) - 1 : below(3) == 0 ? 20 + below(41) : 1 + below(4);
    }

    private int way() {
        return below(20) == 0 ? outside(3) : below(3);
    }

    private int plan() {
        return below(8) == 0 ? outside(1000) : 100 * below(5) + 10 * below(5) + below(5);
    }

    private void act() {
        int kind = below(40);
        int f = file();
        int g = file();
        int p = point();
        int v = value();
        int w = value();
        int way = way();
        int days = days();
        int plan = plan();
        if (kind < 9) due("put(" + f + ", " + v + ")", x.put(f, v), m.put(f, v));
        else if (kind < 12) due("delete(" + f + ")", x.delete(f), m.delete(f));
        else if (kind < 15) due("rename(" + f + ", " + g + ")", x.rename(f, g), m.rename(f, g));
        else if (kind < 16) due("rewrite(" + f + ", " + v + ", " + w + ")", x.rewrite(f, v, w), m.rewrite(f, v, w));
        else if (kind < 22) due("advance(" + days + ")", x.advance(days), m.advance(days));
        else if (kind < 32) due("take(" + way + ")", x.take(way), m.take(way));
        else if (kind < 33) due("restore(" + p + ")", x.restore(p), m.restore(p));
        else if (kind < 35) due("restoreFile(" + p + ", " + f + ")", x.restoreFile(p, f), m.restoreFile(p, f));
        else if (kind < 37) due("pin(" + p + ", " + v + ")", x.pin(p, v), m.pin(p, v));
        else if (kind < 39) due("forget(" + p + ")", x.forget(p), m.forget(p));
        else due("prune(" + plan + ")", x.prune(plan), m.prune(plan));
    }

    private void ask(int kind, int p, int q, int f) {
        switch (kind) {
            case 0: due("points()", x.points(), m.points()); break;
            case 1: due("dayOf(" + p + ")", x.dayOf(p), m.dayOf(p)); break;
            case 2: due("pinned(" + p + ")", x.pinned(p), m.pinned(p)); break;
            case 3: due("there(" + p + ", " + f + ")", x.there(p, f), m.there(p, f)); break;
            case 4: due("content(" + p + ", " + f + ")", x.content(p, f), m.content(p, f)); break;
            case 5: due("liveThere(" + f + ")", x.liveThere(f), m.liveThere(f)); break;
            case 6: due("live(" + f + ")", x.live(f), m.live(f)); break;
            case 7: due("differing(" + p + ", " + q + ")", x.differing(p, q), m.differing(p, q)); break;
            case 8: due("changedSince(" + p + ")", x.changedSince(p), m.changedSince(p)); break;
            case 9: due("versions(" + f + ")", x.versions(f), m.versions(f)); break;
            default: due("sum(" + p + ")", x.sum(p), m.sum(p)); break;
        }
    }

    private void due(String call, int got, int want) {
        calls++;
        Due.is("run " + run + ", call " + calls + ", " + call, got, want);
    }
}
