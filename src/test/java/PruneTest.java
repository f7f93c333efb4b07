/** Promise 12: which points a plan keeps. */
public final class PruneTest {
    public static void main(String[] args) {
        promise("a point's week is its day / 7", PruneTest::weekEdges);
        promise("its month its day / 28 (whole numbers)", PruneTest::monthEdges);
        promise("For each of the three kinds of period, the points that are the last in order of their period"
            + " are its HEADS.", PruneTest::lastInOrderIsTheHead);
        promise("the daily last heads of days", PruneTest::daily);
        promise("(all if there are fewer)", PruneTest::fewerHeadsThanAsked);
        promise("the weekly last heads of weeks", PruneTest::weekly);
        promise("the monthly last heads of months", PruneTest::monthly);
        promise("all pinned points", PruneTest::pinnedAreKept);
        promise("the points that are the last in order of their period are its HEADS", PruneTest::pinnedHeadsCountAsHeads);
        promise("all pinned points", PruneTest::pinnedAreKeptBesideTheHeads);
        promise("and the last point", PruneTest::lastIsKept);
        promise("All other points are taken out.", PruneTest::othersAreTakenOut);
        promise("All other points are taken out.", PruneTest::keptPointsHoldWhatTheyHeld);
        promise("plan is 100 * daily + 10 * weekly + monthly, each 0 .. 9", PruneTest::digitsOfThePlan);
        promise("-1 if plan is not in 0 .. 999", PruneTest::badPlan);
        promise("otherwise answers how many points were taken out", PruneTest::answers);
        promise("otherwise answers how many points were taken out", PruneTest::noPoints);
        Due.end();
    }

    private static void promise(String words, Runnable test) {
        Due.test("Promise 12", words, test);
    }

    /** A point on each of these days (rising, from 0 on), with file 0 holding its number. */
    private static SyntheticChain pointsOn(int... days) {
        SyntheticChain x = new SyntheticChain();
        int today = 0;
        for (int p = 0; p < days.length; p++) {
            while (today < days[p]) {
                today = x.advance(Math.min(60, days[p] - today));
            }
            x.put(0, p);
            x.take(p % 3);
        }
        return x;
    }

    /** 14 points, the first on day 0 and each one this many days after the one before. */
    private static SyntheticChain fourteen(int apart) {
        int[] days = new int[14];
        for (int p = 0; p < 14; p++) {
            days[p] = p * apart;
        }
        return pointsOn(days);
    }

    private static void prunesTo(SyntheticChain x, int plan, int... numbers) {
        String call = "prune(" + plan + ")";
        int before = x.points();
        Due.is(call, x.prune(plan), before - numbers.length);
        Due.is("points() after " + call, x.points(), numbers.length);
        for (int p = 0; p < numbers.length; p++) {
            Due.is("number of point " + p + " after " + call, x.content(p, 0), numbers[p]);
        }
    }

    private static void weekEdges() {
        prunesTo(pointsOn(0, 6), 20, 1);
        prunesTo(pointsOn(6, 7), 20, 0, 1);
        prunesTo(pointsOn(7, 13), 20, 1);
        prunesTo(pointsOn(13, 14), 20, 0, 1);
        prunesTo(pointsOn(365, 366), 20, 1);
        prunesTo(pointsOn(4991, 4997), 20, 1);
        prunesTo(pointsOn(4997, 4998, 5000), 20, 0, 2);
    }

    private static void monthEdges() {
        prunesTo(pointsOn(0, 27), 2, 1);
        prunesTo(pointsOn(27, 28), 2, 0, 1);
        prunesTo(pointsOn(28, 55), 2, 1);
        prunesTo(pointsOn(55, 56), 2, 0, 1);
        prunesTo(pointsOn(29, 32), 2, 1);
        prunesTo(pointsOn(4983, 4984), 2, 0, 1);
        prunesTo(pointsOn(4984, 5000), 2, 1);
    }

    private static void lastInOrderIsTheHead() {
        prunesTo(pointsOn(4, 4, 4, 5), 900, 2, 3);
        prunesTo(pointsOn(0, 3, 3, 7), 90, 2, 3);
        prunesTo(pointsOn(0, 14, 14, 28), 9, 2, 3);
        SyntheticChain x = pointsOn(4, 4, 4, 5);
        x.pin(0, 1);
        prunesTo(x, 900, 0, 2, 3);
        SyntheticChain headGone = pointsOn(4, 4, 4, 5);
        headGone.forget(2);
        prunesTo(headGone, 900, 1, 3);
    }

    private static void daily() {
        prunesTo(pointsOn(0, 1, 1, 2, 3, 3), 0, 5);
        prunesTo(pointsOn(0, 1, 1, 2, 3, 3), 100, 5);
        prunesTo(pointsOn(0, 1, 1, 2, 3, 3), 200, 3, 5);
        prunesTo(pointsOn(0, 1, 1, 2, 3, 3), 300, 2, 3, 5);
        prunesTo(pointsOn(0, 1, 1, 2, 3, 3), 400, 0, 2, 3, 5);
        prunesTo(fourteen(1), 900, 5, 6, 7, 8, 9, 10, 11, 12, 13);
    }

    private static void weekly() {
        prunesTo(pointsOn(0, 6, 7, 13, 14, 21), 0, 5);
        prunesTo(pointsOn(0, 6, 7, 13, 14, 21), 10, 5);
        prunesTo(pointsOn(0, 6, 7, 13, 14, 21), 20, 4, 5);
        prunesTo(pointsOn(0, 6, 7, 13, 14, 21), 30, 3, 4, 5);
        prunesTo(pointsOn(0, 6, 7, 13, 14, 21), 40, 1, 3, 4, 5);
        prunesTo(fourteen(7), 90, 5, 6, 7, 8, 9, 10, 11, 12, 13);
    }

    private static void monthly() {
        prunesTo(pointsOn(0, 27, 28, 55, 56, 84), 0, 5);
        prunesTo(pointsOn(0, 27, 28, 55, 56, 84), 1, 5);
        prunesTo(pointsOn(0, 27, 28, 55, 56, 84), 2, 4, 5);
        prunesTo(pointsOn(0, 27, 28, 55, 56, 84), 3, 3, 4, 5);
        prunesTo(pointsOn(0, 27, 28, 55, 56, 84), 4, 1, 3, 4, 5);
        prunesTo(fourteen(28), 9, 5, 6, 7, 8, 9, 10, 11, 12, 13);
    }

    private static void fewerHeadsThanAsked() {
        prunesTo(pointsOn(0, 0, 1), 300, 1, 2);
        prunesTo(pointsOn(0, 0, 1), 900, 1, 2);
        prunesTo(pointsOn(0, 6, 13), 30, 1, 2);
        prunesTo(pointsOn(0, 6, 13), 90, 1, 2);
        prunesTo(pointsOn(0, 27, 55), 3, 1, 2);
        prunesTo(pointsOn(0, 27, 55), 9, 1, 2);
        prunesTo(pointsOn(3), 999, 0);
        prunesTo(fourteen(0), 999, 13);
    }

    private static void pinnedAreKept() {
        SyntheticChain x = pointsOn(0, 1, 2, 3, 4);
        x.pin(0, 1);
        x.pin(2, 1);
        prunesTo(x, 0, 0, 2, 4);
        Due.is("pinned(0)", x.pinned(0), 1);
        Due.is("pinned(1)", x.pinned(1), 1);
        Due.is("pinned(2)", x.pinned(2), 0);
        x.pin(0, 0);
        x.pin(1, 0);
        prunesTo(x, 0, 4);
        SyntheticChain all = fourteen(0);
        for (int p = 0; p < 14; p++) {
            all.pin(p, 1);
        }
        prunesTo(all, 0, 0, 1, 2, 3, 4, 5, 6, 7, 8, 9, 10, 11, 12, 13);
    }

    private static SyntheticChain pinning(SyntheticChain x, int... positions) {
        for (int p : positions) {
            x.pin(p, 1);
        }
        return x;
    }

    /** A pinned head is one of the last heads: no older head is kept in its stead. */
    private static void pinnedHeadsCountAsHeads() {
        int[] days = {0, 1, 2, 3, 4};
        int[] weeks = {0, 7, 14, 21, 28};
        int[] months = {0, 28, 56, 84, 112};
        prunesTo(pinning(pointsOn(days), 3), 200, 3, 4);
        prunesTo(pinning(pointsOn(days), 4), 200, 3, 4);
        prunesTo(pinning(pointsOn(days), 3, 4), 300, 2, 3, 4);
        prunesTo(pinning(pointsOn(weeks), 3), 20, 3, 4);
        prunesTo(pinning(pointsOn(weeks), 4), 20, 3, 4);
        prunesTo(pinning(pointsOn(weeks), 3, 4), 30, 2, 3, 4);
        prunesTo(pinning(pointsOn(months), 3), 2, 3, 4);
        prunesTo(pinning(pointsOn(months), 4), 2, 3, 4);
        prunesTo(pinning(pointsOn(months), 3, 4), 3, 2, 3, 4);
    }

    /** A pinned point that is no head, or none of the last ones, is kept and takes no head's place. */
    private static void pinnedAreKeptBesideTheHeads() {
        prunesTo(pinning(pointsOn(0, 0, 1, 1, 2), 2), 200, 2, 3, 4);
        prunesTo(pinning(pointsOn(0, 1, 2, 2, 3), 2), 300, 1, 2, 3, 4);
        prunesTo(pinning(pointsOn(0, 7, 14, 15, 21), 2), 30, 1, 2, 3, 4);
        prunesTo(pinning(pointsOn(0, 28, 56, 63, 84), 2), 3, 1, 2, 3, 4);
        prunesTo(pinning(pointsOn(0, 1, 2, 3, 4), 0), 200, 0, 3, 4);
        prunesTo(pinning(pointsOn(0, 7, 14, 21, 28), 1), 20, 1, 3, 4);
        prunesTo(pinning(pointsOn(0, 28, 56, 84, 112), 0, 1), 2, 0, 1, 3, 4);
    }

    private static void lastIsKept() {
        prunesTo(pointsOn(0), 0, 0);
        prunesTo(pointsOn(3, 3, 3), 0, 2);
        prunesTo(fourteen(30), 0, 13);
        SyntheticChain x = pointsOn(0, 1, 2);
        x.forget(2);
        prunesTo(x, 0, 1);
        SyntheticChain pinnedLast = pointsOn(0, 1, 2);
        pinnedLast.pin(2, 1);
        prunesTo(pinnedLast, 0, 2);
    }

    private static void othersAreTakenOut() {
        prunesTo(pointsOn(1, 20, 27, 30, 36, 41, 50, 51, 52), 232, 2, 3, 5, 7, 8);
        prunesTo(pointsOn(1, 20, 27, 30, 36, 41, 50, 51, 52), 230, 3, 5, 7, 8);
        prunesTo(pointsOn(1, 20, 27, 30, 36, 41, 50, 51, 52), 302, 2, 6, 7, 8);
        SyntheticChain x = pointsOn(0, 7, 14, 28, 29, 30, 30);
        x.pin(0, 1);
        prunesTo(x, 211, 0, 4, 6);
        prunesTo(x, 211, 0, 4, 6);
        prunesTo(x, 1, 0, 6);
        x.pin(0, 0);
        prunesTo(x, 2, 0, 6);
        prunesTo(x, 10, 6);
    }

    private static void keptPointsHoldWhatTheyHeld() {
        SyntheticChain x = new SyntheticChain();
        x.put(1, 11);
        x.take(0);
        x.advance(1);
        x.put(2, 22);
        x.take(1);
        x.advance(6);
        x.delete(1);
        x.put(3, 0);
        x.take(2);
        x.put(4, 44);
        Due.is("prune(20)", x.prune(20), 1);
        Due.is("dayOf(0)", x.dayOf(0), 1);
        Due.is("dayOf(1)", x.dayOf(1), 7);
        Due.is("content(0, 1)", x.content(0, 1), 11);
        Due.is("content(0, 2)", x.content(0, 2), 22);
        Due.is("there(0, 3)", x.there(0, 3), 0);
        Due.is("there(1, 1)", x.there(1, 1), 0);
        Due.is("content(1, 2)", x.content(1, 2), 22);
        Due.is("there(1, 3)", x.there(1, 3), 1);
        Due.is("live(4)", x.live(4), 44);
        Due.is("changedSince(1)", x.changedSince(1), 1);
        Due.is("today stays", x.advance(1), 8);
        Due.is("take(0)", x.take(0), 2);
        Due.is("pinned(2)", x.pinned(2), 0);
    }

    private static void digitsOfThePlan() {
        for (int digit = 0; digit <= 9; digit++) {
            int heads = Math.max(digit, 1);
            Due.is("daily " + digit, fourteen(1).prune(100 * digit), 14 - heads);
            Due.is("weekly " + digit, fourteen(7).prune(10 * digit), 14 - heads);
            Due.is("monthly " + digit, fourteen(28).prune(digit), 14 - heads);
            // Other days of one week, or weeks of one month, are no heads of that kind.
            Due.is("weekly " + digit + " in one week", pointsOn(0, 1, 2, 3, 4, 5, 6).prune(10 * digit), 6);
            Due.is("monthly " + digit + " in one month", pointsOn(0, 7, 14, 21).prune(digit), 3);
        }
        prunesTo(pointsOn(0, 27, 28, 34, 35, 36, 37), 321, 3, 4, 5, 6);
        prunesTo(pointsOn(0, 27, 28, 34, 35, 36, 37), 123, 1, 3, 6);
        prunesTo(pointsOn(0, 27, 28, 34, 35, 36, 37), 999, 0, 1, 2, 3, 4, 5, 6);
        prunesTo(pointsOn(0, 1), 199, 1);
        prunesTo(pointsOn(0, 7), 19, 1);
        prunesTo(fourteen(1), 999, 5, 6, 7, 8, 9, 10, 11, 12, 13);
    }

    private static void badPlan() {
        SyntheticChain x = pointsOn(0, 0, 0);
        for (int bad : new int[] {-1, 1000, -100, -999, 1999, Integer.MIN_VALUE, Integer.MAX_VALUE}) {
            Due.is("prune(" + bad + ")", x.prune(bad), -1);
        }
        Due.is("points()", x.points(), 3);
        Due.is("prune(0)", pointsOn(0, 0, 0).prune(0), 2);
        Due.is("prune(999)", pointsOn(0, 0, 0).prune(999), 2);
    }

    private static void answers() {
        Due.is("prune(0) of one point", pointsOn(0).prune(0), 0);
        Due.is("prune(0) of 14 points", fourteen(1).prune(0), 13);
        Due.is("prune(999) of three days", pointsOn(0, 1, 2).prune(999), 0);
        Due.is("prune(200) of three days", pointsOn(0, 1, 2).prune(200), 1);
    }

    private static void noPoints() {
        SyntheticChain x = new SyntheticChain();
        x.put(0, 5);
        Due.is("prune(0)", x.prune(0), 0);
        Due.is("prune(999)", x.prune(999), 0);
        Due.is("prune(1000)", x.prune(1000), -1);
        Due.is("prune(-1)", x.prune(-1), -1);
        Due.is("points()", x.points(), 0);
        Due.is("live(0)", x.live(0), 5);
        Due.is("prune(999) when none is left", State.emptiedAgain().made().prune(999), 0);
    }
}
