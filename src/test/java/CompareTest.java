/** Promises 20 to 23: differing, changedSince, versions and sum. */
public final class CompareTest {
    private static final int MIN = Integer.MIN_VALUE;
    private static final int MAX = Integer.MAX_VALUE;
    // Not good where there are four points.
    private static final int[] BAD_POINTS = {-1, 4, 5, 13, 14, MIN, MAX};

    public static void main(String[] args) {
        Due.test("Promise 20", "How many files differ (absent or there, or content) between the points p and q",
            CompareTest::differing);
        Due.test("Promise 20", "How many files differ", CompareTest::differingNoneOrAll);
        Due.test("Promise 20", "-1 if p or q is not good", CompareTest::differingOfBadPoint);

        Due.test("Promise 21", "How many files differ between point p and the live set", CompareTest::changedSince);
        Due.test("Promise 21", "How many files differ", CompareTest::changedSinceNoneOrAll);
        Due.test("Promise 21", "-1 if p is not good", CompareTest::changedSinceBadPoint);

        Due.test("Promise 22", "How many points p > 0 there are in which file f differs from what it is in point p - 1",
            CompareTest::versions);
        Due.test("Promise 22", "How many points p > 0 there are", CompareTest::versionsOfFewOrManyPoints);
        Due.test("Promise 22", "from what it is in point p - 1", CompareTest::versionsAfterForgetting);
        Due.test("Promise 22", "-1 if f is not good", CompareTest::versionsOfBadFile);

        Due.test("Promise 23", "The sum of the contents of all files that are there in point p", CompareTest::sum);
        Due.test("Promise 23", "all files that are there in point p", CompareTest::sumOfNoneOrAll);
        Due.test("Promise 23", "(wrapping like an int)", CompareTest::sumWraps);
        Due.test("Promise 23", "0 if p is not good", CompareTest::sumOfBadPoint);
        Due.end();
    }

    /** Four points: {}, {0:0, 15:5}, {0:1, 15:5}, {15:5, 7:-9}; live as the last one. */
    private static SyntheticChain four() {
        SyntheticChain x = new SyntheticChain();
        x.take(0);
        x.put(0, 0);
        x.put(15, 5);
        x.take(1);
        x.put(0, 1);
        x.take(2);
        x.delete(0);
        x.put(7, -9);
        x.take(1);
        return x;
    }

    /** Point 0 holds no files, point 1 all of them, file f with content 1 << f. */
    private static SyntheticChain noneThenAll() {
        SyntheticChain x = new SyntheticChain();
        x.take(0);
        for (int f = 0; f < 16; f++) {
            x.put(f, 1 << f);
        }
        x.take(0);
        return x;
    }

    private static void differing() {
        SyntheticChain x = four();
        int[][] want = {{0, 2, 2, 2}, {2, 0, 1, 2}, {2, 1, 0, 2}, {2, 2, 2, 0}};
        for (int p = 0; p < 4; p++) {
            for (int q = 0; q < 4; q++) {
                Due.is("differing(" + p + ", " + q + ")", x.differing(p, q), want[p][q]);
            }
        }
    }

    private static void differingNoneOrAll() {
        SyntheticChain x = noneThenAll();
        Due.is("differing(0, 1), none and all there", x.differing(0, 1), 16);
        Due.is("differing(1, 0), all and none there", x.differing(1, 0), 16);
        Due.is("differing(1, 1)", x.differing(1, 1), 0);
        x.rewrite(0, -1, 0);
        x.take(0);
        Due.is("differing(1, 2), other contents", x.differing(1, 2), 16);
        x.take(1);
        Due.is("differing(2, 3), taken again", x.differing(2, 3), 0);
        for (int f = 0; f < 16; f++) {
            x.delete(f);
        }
        x.take(2);
        Due.is("differing(0, 4), none there in both", x.differing(0, 4), 0);
    }

    private static void differingOfBadPoint() {
        SyntheticChain x = four();
        for (int bad : BAD_POINTS) {
            Due.is("differing(" + bad + ", 0)", x.differing(bad, 0), -1);
            Due.is("differing(0, " + bad + ")", x.differing(0, bad), -1);
            Due.is("differing(3, " + bad + ")", x.differing(3, bad), -1);
            Due.is("differing(" + bad + ", " + bad + ")", x.differing(bad, bad), -1);
        }
        Due.is("differing(0, 0) with no points", new SyntheticChain().differing(0, 0), -1);
        Due.is("differing(13, 14) of 14", State.fullOfPoints().made().differing(13, 14), -1);
    }

    private static void changedSince() {
        SyntheticChain x = four();
        Due.is("changedSince(0)", x.changedSince(0), 2);
        Due.is("changedSince(1)", x.changedSince(1), 2);
        Due.is("changedSince(2)", x.changedSince(2), 2);
        Due.is("changedSince(3)", x.changedSince(3), 0);
        x.put(0, 0);
        Due.is("changedSince(3), absent became 0", x.changedSince(3), 1);
        Due.is("changedSince(1)", x.changedSince(1), 1);
        x.delete(0);
        x.put(15, 6);
        Due.is("changedSince(3), other content", x.changedSince(3), 1);
        x.put(15, 5);
        Due.is("changedSince(3), put back", x.changedSince(3), 0);
        x.put(5, 5);
        x.delete(5);
        Due.is("changedSince(3), put and deleted", x.changedSince(3), 0);
        x.rename(15, 14);
        Due.is("changedSince(3), renamed", x.changedSince(3), 2);
    }

    private static void changedSinceNoneOrAll() {
        SyntheticChain x = noneThenAll();
        Due.is("changedSince(0), all put", x.changedSince(0), 16);
        Due.is("changedSince(1), just taken", x.changedSince(1), 0);
        x.rewrite(0, -1, 0);
        Due.is("changedSince(1), all rewritten", x.changedSince(1), 16);
        for (int f = 0; f < 16; f++) {
            x.delete(f);
        }
        Due.is("changedSince(1), all deleted", x.changedSince(1), 16);
        Due.is("changedSince(0), none there in both", x.changedSince(0), 0);
    }

    private static void changedSinceBadPoint() {
        SyntheticChain x = four();
        for (int bad : BAD_POINTS) {
            Due.is("changedSince(" + bad + ")", x.changedSince(bad), -1);
        }
        Due.is("changedSince(0) with no points", State.allThere().made().changedSince(0), -1);
        // The place behind the last point must not be taken for a point.
        Due.is("changedSince(14) of 14", State.fullOfPoints().made().changedSince(14), -1);
    }

    private static void versions() {
        SyntheticChain x = four();
        Due.is("versions(0), absent, 0, 1, absent", x.versions(0), 3);
        Due.is("versions(7)", x.versions(7), 1);
        Due.is("versions(15)", x.versions(15), 1);
        Due.is("versions(3)", x.versions(3), 0);
        x.put(3, 3);
        Due.is("versions(3), changed in the live set alone", x.versions(3), 0);
    }

    private static void versionsOfFewOrManyPoints() {
        SyntheticChain x = new SyntheticChain();
        x.put(15, 0);
        Due.is("versions(15) of no points", x.versions(15), 0);
        for (int p = 0; p < 14; p++) {
            x.put(15, p + 1);
            x.take(0);
            Due.is("versions(15) of " + (p + 1) + " points", x.versions(15), p);
            Due.is("versions(0) of " + (p + 1) + " points", x.versions(0), 0);
        }
    }

    private static void versionsAfterForgetting() {
        SyntheticChain x = new SyntheticChain();
        for (int content : new int[] {1, 2, 1}) {
            x.put(0, content);
            x.take(1);
        }
        Due.is("versions(0)", x.versions(0), 2);
        x.forget(1);
        Due.is("versions(0) when the middle is forgotten", x.versions(0), 0);
        x.forget(1);
        Due.is("versions(0) when the last is forgotten", x.versions(0), 0);
        x.forget(0);
        Due.is("versions(0) when all are forgotten", x.versions(0), 0);
    }

    private static void versionsOfBadFile() {
        SyntheticChain x = four();
        for (int bad : State.BAD_FILES) {
            Due.is("versions(" + bad + ")", x.versions(bad), -1);
            Due.is("versions(" + bad + ") of no points", new SyntheticChain().versions(bad), -1);
        }
    }

    private static void sum() {
        SyntheticChain x = four();
        Due.is("sum(1)", x.sum(1), 5);
        Due.is("sum(2)", x.sum(2), 6);
        Due.is("sum(3)", x.sum(3), -4);
        x.rewrite(0, 1000, 0);
        Due.is("sum(3), rewritten in the live set alone", x.sum(3), -4);
    }

    private static void sumOfNoneOrAll() {
        SyntheticChain x = noneThenAll();
        Due.is("sum(0), none there", x.sum(0), 0);
        Due.is("sum(1), all there", x.sum(1), 65535);
        x.delete(15);
        x.rename(14, 0);
        x.take(0);
        Due.is("sum(2), one deleted and one renamed", x.sum(2), 32767 - 1);
    }

    private static void sumWraps() {
        SyntheticChain x = new SyntheticChain();
        x.put(0, MAX);
        x.take(0);
        Due.is("sum(0), the greatest int", x.sum(0), MAX);
        x.put(15, 1);
        x.take(0);
        Due.is("sum(1), one more", x.sum(1), MIN);
        x.put(0, MIN);
        x.put(15, -1);
        x.take(0);
        Due.is("sum(2), one less than the least", x.sum(2), MAX);
        x.put(15, MIN);
        x.take(0);
        Due.is("sum(3), twice the least", x.sum(3), 0);
    }

    private static void sumOfBadPoint() {
        SyntheticChain x = four();
        for (int bad : BAD_POINTS) {
            Due.is("sum(" + bad + ")", x.sum(bad), 0);
        }
        Due.is("sum(0) with no points", State.allThere().made().sum(0), 0);
        SyntheticChain full = State.fullOfPoints().made();
        Due.is("sum(14) of 14", full.sum(14), 0);
        full.forget(13);
        Due.is("sum(13) when forgotten", full.sum(13), 0);
    }
}
