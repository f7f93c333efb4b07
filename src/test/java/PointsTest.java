/** Promises 7 to 11 and 13 to 17: taking, restoring, pinning, forgetting and asking about points. */
public final class PointsTest {
    private static final int[] BAD_FILES = {-1, 16, Integer.MIN_VALUE, Integer.MAX_VALUE};
    private static final int[] BAD_POINTS = {-1, 3, 13, 14, Integer.MIN_VALUE, Integer.MAX_VALUE};

    public static void main(String[] args) {
        take();
        takeRefused();
        wayChangesNoAnswer();
        restore();
        restoreFile();
        pin();
        forget();
        forgetRefused();
        forgetAndTakeAgain();
        pointQuestions();
        noPoints();
        Due.end();
    }

    /** Three points: day 0 {0:10}, day 2 {0:10, 15:0}, day 5 {15:7}; live is then {1:1, 15:7}. */
    private static SyntheticChain three() {
        SyntheticChain x = new SyntheticChain();
        x.put(0, 10);
        x.take(0);
        x.advance(2);
        x.put(15, 0);
        x.take(1);
        x.advance(3);
        x.delete(0);
        x.put(15, 7);
        x.take(2);
        x.put(1, 1);
        return x;
    }

    private static void take() {
        SyntheticChain x = new SyntheticChain();
        for (int p = 0; p < 14; p++) {
            x.put(p, p + 1);
            x.advance(1);
            Due.is("take", x.take(p % 3), p);
        }
        Due.is("points()", x.points(), 14);
        // The questions below are as many as fit into the 512 calls that an object is promised for.
        for (int p = 0; p < 14; p++) {
            Due.is("dayOf(" + p + ")", x.dayOf(p), p + 1);
            for (int f = 0; f < 16; f++) {
                Due.is("there(" + p + ", " + f + ")", x.there(p, f), f <= p ? 1 : 0);
                Due.is("content(" + p + ", " + f + ")", x.content(p, f), f <= p ? f + 1 : 0);
            }
        }
    }

    private static void takeRefused() {
        SyntheticChain x = new SyntheticChain();
        int[] bad = {-1, 3, Integer.MIN_VALUE, Integer.MAX_VALUE};
        for (int way : bad) {
            Due.is("take(" + way + ")", x.take(way), -1);
        }
        Due.is("points() after refused takes", x.points(), 0);
        for (int p = 0; p < 14; p++) {
            x.take(2);
        }
        x.put(0, 1);
        for (int way = 0; way <= 2; way++) {
            Due.is("take(" + way + ") at 14 points", x.take(way), -2);
        }
        Due.is("take(3) at 14 points", x.take(3), -1);
        Due.is("points() at the most", x.points(), 14);
        Due.is("changedSince(13)", x.changedSince(13), 1);
        Due.is("live(0)", x.live(0), 1);
    }

    private static void wayChangesNoAnswer() {
        for (int ways = 0; ways < 27; ways++) {
            SyntheticChain x = new SyntheticChain();
            x.put(3, 30);
            x.take(ways % 3);
            x.put(4, 40);
            x.take(ways / 3 % 3);
            x.delete(3);
            x.take(ways / 9);
            x.forget(0);
            Due.is("content(0, 3), ways " + ways, x.content(0, 3), 30);
            Due.is("there(1, 3), ways " + ways, x.there(1, 3), 0);
            x.forget(0);
            Due.is("content(0, 4), ways " + ways, x.content(0, 4), 40);
            Due.is("there(0, 3), ways " + ways, x.there(0, 3), 0);
        }
    }

    private static void restore() {
        SyntheticChain x = three();
        Due.is("restore(1)", x.restore(1), 3);
        Due.is("live(0)", x.live(0), 10);
        Due.is("liveThere(1)", x.liveThere(1), 0);
        Due.is("live(1)", x.live(1), 0);
        Due.is("liveThere(15)", x.liveThere(15), 1);
        Due.is("live(15)", x.live(15), 0);
        Due.is("restore(1) again", x.restore(1), 0);
        Due.is("restore(0): content 0 becomes absent", x.restore(0), 1);
        Due.is("liveThere(15)", x.liveThere(15), 0);
        for (int bad : BAD_POINTS) {
            Due.is("restore(" + bad + ")", x.restore(bad), -1);
        }
        Due.is("changedSince(0) after refused restores", x.changedSince(0), 0);
        Due.is("points()", x.points(), 3);
        Due.is("today is not restored", x.advance(1), 6);
        x.put(0, 99);
        Due.is("a restored point stays as it is", x.content(0, 0), 10);
    }

    private static void restoreFile() {
        SyntheticChain x = three();
        Due.is("restoreFile(1, 15)", x.restoreFile(1, 15), 1);
        Due.is("live(15)", x.live(15), 0);
        Due.is("liveThere(15)", x.liveThere(15), 1);
        Due.is("restoreFile(1, 15) again", x.restoreFile(1, 15), 0);
        Due.is("restoreFile(0, 15): content 0 becomes absent", x.restoreFile(0, 15), 1);
        Due.is("liveThere(15)", x.liveThere(15), 0);
        Due.is("restoreFile(0, 0): absent becomes there", x.restoreFile(0, 0), 1);
        Due.is("live(0)", x.live(0), 10);
        Due.is("live(1)", x.live(1), 1);
        Due.is("restoreFile(2, 9): absent in both", x.restoreFile(2, 9), 0);
        for (int bad : BAD_POINTS) {
            Due.is("restoreFile(" + bad + ", 1)", x.restoreFile(bad, 1), -1);
            Due.is("restoreFile(" + bad + ", 16)", x.restoreFile(bad, 16), -1);
        }
        for (int bad : BAD_FILES) {
            Due.is("restoreFile(0, " + bad + ")", x.restoreFile(0, bad), -2);
        }
        Due.is("changedSince(0)", x.changedSince(0), 1);
    }

    private static void pin() {
        SyntheticChain x = three();
        Due.is("pin(1, 0) of an unpinned point", x.pin(1, 0), 0);
        Due.is("pinned(1)", x.pinned(1), 0);
        Due.is("pin(1, -5)", x.pin(1, -5), 0);
        Due.is("pinned(1)", x.pinned(1), 1);
        Due.is("pin(1, MIN)", x.pin(1, Integer.MIN_VALUE), 1);
        Due.is("pinned(1)", x.pinned(1), 1);
        Due.is("pinned(0)", x.pinned(0), 0);
        Due.is("pinned(2)", x.pinned(2), 0);
        Due.is("pin(1, 0)", x.pin(1, 0), 1);
        Due.is("pinned(1)", x.pinned(1), 0);
        Due.is("pin(2, 2)", x.pin(2, 2), 0);
        Due.is("pinned(2)", x.pinned(2), 1);
        for (int bad : BAD_POINTS) {
            Due.is("pin(" + bad + ", 1)", x.pin(bad, 1), -1);
            Due.is("pin(" + bad + ", 0)", x.pin(bad, 0), -1);
        }
        Due.is("take after refused pins", x.take(0), 3);
        Due.is("a new point is not pinned", x.pinned(3), 0);
    }

    private static void forget() {
        SyntheticChain x = three();
        x.pin(2, 1);
        Due.is("forget(1)", x.forget(1), 2);
        Due.is("points()", x.points(), 2);
        Due.is("dayOf(0)", x.dayOf(0), 0);
        Due.is("content(0, 0)", x.content(0, 0), 10);
        Due.is("there(0, 15)", x.there(0, 15), 0);
        Due.is("dayOf(1)", x.dayOf(1), 5);
        Due.is("pinned(1)", x.pinned(1), 1);
        Due.is("pinned(0)", x.pinned(0), 0);
        Due.is("content(1, 15)", x.content(1, 15), 7);
        Due.is("dayOf(2)", x.dayOf(2), -1);
        Due.is("live(1)", x.live(1), 1);
        Due.is("forget(0)", x.forget(0), 1);
        Due.is("dayOf(0)", x.dayOf(0), 5);
        x.pin(0, 0);
        Due.is("forget the only point", x.forget(0), 0);
        Due.is("forget(0) with no points", x.forget(0), -1);
        Due.is("points()", x.points(), 0);
    }

    private static void forgetRefused() {
        SyntheticChain x = three();
        x.pin(0, 1);
        Due.is("forget(0), pinned", x.forget(0), -2);
        for (int bad : BAD_POINTS) {
            Due.is("forget(" + bad + ")", x.forget(bad), -1);
        }
        Due.is("points()", x.points(), 3);
        Due.is("pinned(0)", x.pinned(0), 1);
        Due.is("dayOf(0)", x.dayOf(0), 0);
        Due.is("content(0, 0)", x.content(0, 0), 10);
    }

    private static void forgetAndTakeAgain() {
        SyntheticChain x = new SyntheticChain();
        for (int p = 0; p < 14; p++) {
            x.put(0, p);
            x.take(1);
        }
        x.pin(13, 1);
        Due.is("forget(0) of 14", x.forget(0), 13);
        Due.is("pinned(12)", x.pinned(12), 1);
        x.put(0, 99);
        x.put(15, 15);
        Due.is("take in the freed place", x.take(1), 13);
        Due.is("a new point is not pinned", x.pinned(13), 0);
        for (int p = 0; p < 13; p++) {
            Due.is("content(" + p + ", 0)", x.content(p, 0), p + 1);
            Due.is("there(" + p + ", 15)", x.there(p, 15), 0);
        }
        Due.is("content(13, 0)", x.content(13, 0), 99);
        Due.is("forget(13)", x.forget(13), 13);
        x.pin(12, 0);
        Due.is("forget(12)", x.forget(12), 12);
        Due.is("take again", x.take(0), 12);
        Due.is("pinned(12)", x.pinned(12), 0);
    }

    private static void pointQuestions() {
        SyntheticChain x = three();
        Due.is("points()", x.points(), 3);
        Due.is("dayOf(0)", x.dayOf(0), 0);
        Due.is("dayOf(1)", x.dayOf(1), 2);
        Due.is("dayOf(2)", x.dayOf(2), 5);
        Due.is("there(1, 15), content 0", x.there(1, 15), 1);
        Due.is("content(1, 15)", x.content(1, 15), 0);
        Due.is("there(2, 0)", x.there(2, 0), 0);
        Due.is("content(2, 0), absent there", x.content(2, 0), 0);
        Due.is("there(2, 1), put after it", x.there(2, 1), 0);
        for (int bad : BAD_POINTS) {
            Due.is("dayOf(" + bad + ")", x.dayOf(bad), -1);
            Due.is("pinned(" + bad + ")", x.pinned(bad), -1);
            Due.is("there(" + bad + ", 1)", x.there(bad, 1), -1);
            Due.is("there(" + bad + ", 16)", x.there(bad, 16), -1);
            Due.is("content(" + bad + ", 1)", x.content(bad, 1), 0);
            Due.is("content(" + bad + ", 16)", x.content(bad, 16), 0);
        }
        for (int bad : BAD_FILES) {
            Due.is("there(0, " + bad + ")", x.there(0, bad), -2);
            Due.is("there(1, " + bad + ")", x.there(1, bad), -2);
            Due.is("content(0, " + bad + ")", x.content(0, bad), 0);
            Due.is("content(1, " + bad + ")", x.content(1, bad), 0);
        }
    }

    private static void noPoints() {
        SyntheticChain x = new SyntheticChain();
        x.put(0, 5);
        Due.is("restore(0)", x.restore(0), -1);
        Due.is("restoreFile(0, 0)", x.restoreFile(0, 0), -1);
        Due.is("pin(0, 1)", x.pin(0, 1), -1);
        Due.is("forget(0)", x.forget(0), -1);
        Due.is("dayOf(0)", x.dayOf(0), -1);
        Due.is("pinned(0)", x.pinned(0), -1);
        Due.is("there(0, 0)", x.there(0, 0), -1);
        Due.is("content(0, 0)", x.content(0, 0), 0);
        Due.is("live(0)", x.live(0), 5);
    }
}
