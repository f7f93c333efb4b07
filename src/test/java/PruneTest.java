/** Promise 12: which points a plan keeps. */
public final class PruneTest {
    public static void main(String[] args) {
        planBounds();
        noPoints();
        onlyTheLastIsKept();
        daily();
        weekly();
        monthly();
        periodEdges();
        kindsTogether();
        fewerHeadsThanAsked();
        pinnedAreKept();
        pinnedHeadsCountAsHeads();
        lastInOrderIsTheHead();
        keptPointsHoldWhatTheyHeld();
        prunedAgain();
        Due.end();
    }

    /** A point on each of these days (rising, from 0 on), with file 0 holding its number. */
    private static SyntheticChain pointsOn(int... days) {
        SyntheticChain x = new SyntheticChain();
        int today = 0;
        for (int p = 0; p < days.length; p++) {
            while (today < days[p]) {
                today = x.advance(Math.min(60, days[p] - today));
            }
            x.put(0, p);
            x.take(p % 3);
        }
        return x;
    }

    private static void prunesTo(SyntheticChain x, int plan, int... numbers) {
        String call = "prune(" + plan + ")";
        int before = x.points();
        Due.is(call, x.prune(plan), before - numbers.length);
        Due.is("points() after " + call, x.points(), numbers.length);
        for (int p = 0; p < numbers.length; p++) {
            Due.is("number of point " + p + " after " + call, x.content(p, 0), numbers[p]);
        }
    }

    private static void planBounds() {
        SyntheticChain x = pointsOn(0, 1, 2);
        int[] bad = {-1, 1000, -100, Integer.MIN_VALUE, Integer.MAX_VALUE};
        for (int plan : bad) {
            Due.is("prune(" + plan + ")", x.prune(plan), -1);
        }
        Due.is("points() after refused prunes", x.points(), 3);
        Due.is("prune(999)", x.prune(999), 0);
        Due.is("points()", x.points(), 3);
    }

    private static void noPoints() {
        SyntheticChain x = new SyntheticChain();
        x.put(0, 5);
        Due.is("prune(0) with no points", x.prune(0), 0);
        Due.is("prune(999) with no points", x.prune(999), 0);
        Due.is("prune(1000) with no points", x.prune(1000), -1);
        Due.is("live(0)", x.live(0), 5);
        Due.is("take", x.take(0), 0);
    }

    private static void onlyTheLastIsKept() {
        prunesTo(pointsOn(0, 30, 90), 0, 2);
        prunesTo(pointsOn(0), 0, 0);
        prunesTo(pointsOn(3, 3, 3), 0, 2);
    }

    private static void daily() {
        prunesTo(pointsOn(0, 1, 1, 2, 3, 3), 100, 5);
        prunesTo(pointsOn(0, 1, 1, 2, 3, 3), 200, 3, 5);
        prunesTo(pointsOn(0, 1, 1, 2, 3, 3), 300, 2, 3, 5);
        prunesTo(pointsOn(0, 1, 2, 3, 4, 5, 6, 7, 8, 9, 10, 11, 12, 13), 900, 5, 6, 7, 8, 9, 10, 11, 12, 13);
    }

    private static void weekly() {
        prunesTo(pointsOn(0, 6, 7, 13, 14, 21), 10, 5);
        prunesTo(pointsOn(0, 6, 7, 13, 14, 21), 20, 4, 5);
        prunesTo(pointsOn(0, 6, 7, 13, 14, 21), 30, 3, 4, 5);
        prunesTo(pointsOn(0, 6, 7, 13, 14, 21), 90, 1, 3, 4, 5);
        prunesTo(pointsOn(0, 7, 14, 21, 28, 35, 42, 49, 56, 63, 70), 90, 2, 3, 4, 5, 6, 7, 8, 9, 10);
    }

    private static void monthly() {
        prunesTo(pointsOn(0, 27, 28, 55, 56, 84), 1, 5);
        prunesTo(pointsOn(0, 27, 28, 55, 56, 84), 2, 4, 5);
        prunesTo(pointsOn(0, 27, 28, 55, 56, 84), 3, 3, 4, 5);
        prunesTo(pointsOn(0, 27, 28, 55, 56, 84), 9, 1, 3, 4, 5);
        prunesTo(pointsOn(0, 30, 60, 90, 120, 150, 180, 210, 240, 270, 300), 9, 2, 3, 4, 5, 6, 7, 8, 9, 10);
    }

    private static void periodEdges() {
        prunesTo(pointsOn(6, 7), 20, 0, 1);
        prunesTo(pointsOn(7, 13), 20, 1);
        prunesTo(pointsOn(27, 28), 2, 0, 1);
        prunesTo(pointsOn(28, 55), 2, 1);
        prunesTo(pointsOn(29, 31), 2, 1);
        prunesTo(pointsOn(365, 366), 22, 1);
        prunesTo(pointsOn(4991, 4992, 5000), 200, 1, 2);
        prunesTo(pointsOn(4991, 4997, 4998, 5000), 20, 1, 3);
    }

    private static void kindsTogether() {
        prunesTo(pointsOn(1, 20, 27, 30, 36, 41, 50, 51, 52), 232, 2, 3, 5, 7, 8);
        prunesTo(pointsOn(1, 20, 27, 30, 36, 41, 50, 51, 52), 230, 3, 5, 7, 8);
        prunesTo(pointsOn(1, 20, 27, 30, 36, 41, 50, 51, 52), 302, 2, 6, 7, 8);
    }

    private static void fewerHeadsThanAsked() {
        prunesTo(pointsOn(0, 0, 1), 900, 1, 2);
        prunesTo(pointsOn(0, 6, 13), 90, 1, 2);
        prunesTo(pointsOn(0, 27, 55), 9, 1, 2);
    }

    private static void pinnedAreKept() {
        SyntheticChain x = pointsOn(0, 1, 2, 3, 4);
        x.pin(0, 1);
        x.pin(2, 1);
        prunesTo(x, 0, 0, 2, 4);
        Due.is("pinned(0)", x.pinned(0), 1);
        Due.is("pinned(1)", x.pinned(1), 1);
        Due.is("pinned(2)", x.pinned(2), 0);
        x.pin(0, 0);
        x.pin(1, 0);
        prunesTo(x, 0, 4);
    }

    private static void pinnedHeadsCountAsHeads() {
        SyntheticChain x = pointsOn(0, 1, 2, 3, 4);
        x.pin(3, 1);
        prunesTo(x, 200, 3, 4);
        SyntheticChain y = pointsOn(0, 0, 1, 1, 2);
        y.pin(2, 1);
        prunesTo(y, 200, 2, 3, 4);
    }

    private static void lastInOrderIsTheHead() {
        SyntheticChain x = pointsOn(4, 4, 4, 5);
        x.pin(0, 1);
        prunesTo(x, 900, 0, 2, 3);
    }

    private static void keptPointsHoldWhatTheyHeld() {
        SyntheticChain x = new SyntheticChain();
        x.put(1, 11);
        x.take(0);
        x.advance(1);
        x.put(2, 22);
        x.take(1);
        x.advance(6);
        x.delete(1);
        x.put(3, 0);
        x.take(2);
        x.put(4, 44);
        Due.is("prune(20)", x.prune(20), 1);
        Due.is("dayOf(0)", x.dayOf(0), 1);
        Due.is("dayOf(1)", x.dayOf(1), 7);
        Due.is("content(0, 1)", x.content(0, 1), 11);
        Due.is("content(0, 2)", x.content(0, 2), 22);
        Due.is("there(0, 3)", x.there(0, 3), 0);
        Due.is("there(1, 1)", x.there(1, 1), 0);
        Due.is("content(1, 2)", x.content(1, 2), 22);
        Due.is("there(1, 3)", x.there(1, 3), 1);
        Due.is("live(4)", x.live(4), 44);
        Due.is("changedSince(1)", x.changedSince(1), 1);
        Due.is("today after prune", x.advance(1), 8);
        Due.is("take after prune", x.take(0), 2);
        Due.is("pinned(2)", x.pinned(2), 0);
    }

    private static void prunedAgain() {
        SyntheticChain x = pointsOn(0, 7, 14, 28, 29, 30, 30);
        x.pin(0, 1);
        prunesTo(x, 211, 0, 4, 6);
        prunesTo(x, 211, 0, 4, 6);
        prunesTo(x, 1, 0, 6);
        x.pin(0, 0);
        prunesTo(x, 2, 0, 6);
        prunesTo(x, 10, 6);
    }
}
