/** Promises 20 to 23: differing, changedSince, versions and sum. */
public final class CompareTest {
    private static final int[] BAD_FILES = {-1, 16, Integer.MIN_VALUE, Integer.MAX_VALUE};
    private static final int[] BAD_POINTS = {-1, 4, 13, 14, Integer.MIN_VALUE, Integer.MAX_VALUE};

    public static void main(String[] args) {
        differing();
        changedSince();
        versions();
        versionsAfterForgetting();
        sum();
        allFilesCount();
        noPoints();
        Due.end();
    }

    /** Four points: {}, {0:0, 15:5}, {0:1, 15:5}, {15:5, 7:-9}; live as the last one. */
    private static SyntheticChain four() {
        SyntheticChain x = new SyntheticChain();
        x.take(0);
        x.put(0, 0);
        x.put(15, 5);
        x.take(1);
        x.put(0, 1);
        x.take(2);
        x.delete(0);
        x.put(7, -9);
        x.take(1);
        return x;
    }

    private static void differing() {
        SyntheticChain x = four();
        int[][] want = {{0, 2, 2, 2}, {2, 0, 1, 2}, {2, 1, 0, 2}, {2, 2, 2, 0}};
        for (int p = 0; p < 4; p++) {
            for (int q = 0; q < 4; q++) {
                Due.is("differing(" + p + ", " + q + ")", x.differing(p, q), want[p][q]);
            }
        }
        for (int bad : BAD_POINTS) {
            Due.is("differing(" + bad + ", 0)", x.differing(bad, 0), -1);
            Due.is("differing(3, " + bad + ")", x.differing(3, bad), -1);
            Due.is("differing of a bad point with itself", x.differing(bad, bad), -1);
        }
    }

    private static void changedSince() {
        SyntheticChain x = four();
        Due.is("changedSince(0)", x.changedSince(0), 2);
        Due.is("changedSince(1)", x.changedSince(1), 2);
        Due.is("changedSince(2)", x.changedSince(2), 2);
        Due.is("changedSince(3)", x.changedSince(3), 0);
        x.put(0, 0);
        Due.is("changedSince(3), absent became 0", x.changedSince(3), 1);
        Due.is("changedSince(1)", x.changedSince(1), 1);
        x.delete(0);
        x.put(15, 6);
        Due.is("changedSince(3), other content", x.changedSince(3), 1);
        x.put(15, 5);
        Due.is("changedSince(3), put back", x.changedSince(3), 0);
        x.put(5, 5);
        x.delete(5);
        Due.is("changedSince(3), put and deleted", x.changedSince(3), 0);
        x.rename(15, 14);
        Due.is("changedSince(3), renamed", x.changedSince(3), 2);
        for (int bad : BAD_POINTS) {
            Due.is("changedSince(" + bad + ")", x.changedSince(bad), -1);
        }
    }

    private static void versions() {
        SyntheticChain x = four();
        Due.is("versions(0)", x.versions(0), 3);
        Due.is("versions(7)", x.versions(7), 1);
        Due.is("versions(15)", x.versions(15), 1);
        Due.is("versions(3)", x.versions(3), 0);
        x.put(3, 3);
        Due.is("versions(3), changed in the live set alone", x.versions(3), 0);
        for (int bad : BAD_FILES) {
            Due.is("versions(" + bad + ")", x.versions(bad), -1);
        }
        SyntheticChain most = new SyntheticChain();
        for (int p = 0; p < 14; p++) {
            most.put(2, p);
            most.take(0);
        }
        Due.is("versions(2) of 14 points", most.versions(2), 13);
        SyntheticChain one = new SyntheticChain();
        one.put(0, 1);
        one.take(0);
        Due.is("versions(0) of one point", one.versions(0), 0);
    }

    private static void versionsAfterForgetting() {
        SyntheticChain x = new SyntheticChain();
        x.put(0, 1);
        x.take(1);
        x.put(0, 2);
        x.take(1);
        x.put(0, 1);
        x.take(1);
        Due.is("versions(0)", x.versions(0), 2);
        x.forget(1);
        Due.is("versions(0) when the middle is forgotten", x.versions(0), 0);
        x.forget(1);
        Due.is("versions(0) when the last is forgotten", x.versions(0), 0);
    }

    private static void sum() {
        SyntheticChain x = four();
        Due.is("sum(0)", x.sum(0), 0);
        Due.is("sum(1)", x.sum(1), 5);
        Due.is("sum(2)", x.sum(2), 6);
        Due.is("sum(3)", x.sum(3), -4);
        for (int bad : BAD_POINTS) {
            Due.is("sum(" + bad + ")", x.sum(bad), 0);
        }
        SyntheticChain wrapping = new SyntheticChain();
        wrapping.put(0, Integer.MAX_VALUE);
        wrapping.put(15, 2);
        wrapping.take(0);
        Due.is("sum that wraps", wrapping.sum(0), Integer.MIN_VALUE + 1);
    }

    private static void allFilesCount() {
        SyntheticChain x = new SyntheticChain();
        x.take(0);
        for (int f = 0; f < 16; f++) {
            x.put(f, 1 << f);
        }
        x.take(0);
        Due.is("differing(0, 1)", x.differing(0, 1), 16);
        Due.is("changedSince(0)", x.changedSince(0), 16);
        Due.is("sum(1)", x.sum(1), 65535);
        Due.is("restore(0)", x.restore(0), 16);
        for (int f = 0; f < 16; f++) {
            Due.is("versions(" + f + ")", x.versions(f), 1);
        }
    }

    private static void noPoints() {
        SyntheticChain x = new SyntheticChain();
        x.put(0, 5);
        Due.is("differing(0, 0)", x.differing(0, 0), -1);
        Due.is("changedSince(0)", x.changedSince(0), -1);
        Due.is("versions(0)", x.versions(0), 0);
        Due.is("sum(0)", x.sum(0), 0);
    }
}
