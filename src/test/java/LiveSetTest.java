/** Promises 1 to 6, 18 and 19: the new object, the calls on the live set, and the day. */
public final class LiveSetTest {
    private static final int MIN = Integer.MIN_VALUE;
    private static final int MAX = Integer.MAX_VALUE;

    public static void main(String[] args) {
        Due.test("Promise 1", "No points at first.", LiveSetTest::noPointsAtFirst);
        Due.test("Promise 1", "No points at first.", LiveSetTest::objectsAreApart);

        Due.test("Promise 2", "File f is there with this content.", LiveSetTest::put);
        Due.test("Promise 2", "-1 if f is not good", LiveSetTest::putOfBadFile);
        Due.test("Promise 2", "1 if it was there before", LiveSetTest::putWhereThere);
        Due.test("Promise 2", "0 if it was absent", LiveSetTest::putWhereAbsent);

        Due.test("Promise 3", "File f becomes absent.", LiveSetTest::delete);
        Due.test("Promise 3", "-1 if f is not good", LiveSetTest::deleteOfBadFile);
        Due.test("Promise 3", "1 if it was there before", LiveSetTest::deleteWhereThere);
        Due.test("Promise 3", "0 if it was absent", LiveSetTest::deleteWhereAbsent);

        Due.test("Promise 4", "File to becomes there with the content of file from", LiveSetTest::renameTo);
        Due.test("Promise 4", "and from becomes absent", LiveSetTest::renameFrom);
        Due.test("Promise 4", "-1 if from or to is not good", LiveSetTest::renameOfBadFile);
        Due.test("Promise 4", "-2 if they are the same", LiveSetTest::renameToItself);
        Due.test("Promise 4", "-3 if from is absent", LiveSetTest::renameOfAbsent);
        Due.test("Promise 4", "otherwise 0", LiveSetTest::renameAnswers);

        Due.test("Promise 5", "The contents of all files that are there, from number first on,"
            + " become content + number * step", LiveSetTest::rewrite);
        Due.test("Promise 5", "all files that are there", LiveSetTest::rewriteLeavesAbsent);
        Due.test("Promise 5", "from number first on", LiveSetTest::rewriteFrom);
        Due.test("Promise 5", "(wrapping like ints)", LiveSetTest::rewriteWraps);
        Due.test("Promise 5", "-1 if first is not good", LiveSetTest::rewriteOfBadFile);
        Due.test("Promise 5", "otherwise answers how many files that were", LiveSetTest::rewriteAnswers);

        Due.test("Promise 6", "Today becomes later by this many days.", LiveSetTest::advance);
        Due.test("Promise 6", "-1 if days is not in 1 .. 60", LiveSetTest::advanceTooFewOrMany);
        Due.test("Promise 6", "-2 if today + days is more than 5000", LiveSetTest::advancePastTheLastDay);
        Due.test("Promise 6", "otherwise answers the new day", LiveSetTest::advanceAnswers);

        Due.test("Promise 18", "1 if file f is there in the live set", LiveSetTest::liveThereWhereThere);
        Due.test("Promise 18", "0 if it is absent", LiveSetTest::liveThereWhereAbsent);
        Due.test("Promise 18", "-1 if f is not good", LiveSetTest::liveThereOfBadFile);

        Due.test("Promise 19", "The content of file f in the live set", LiveSetTest::live);
        Due.test("Promise 19", "0 if f is not good or absent", LiveSetTest::liveOfBadFile);
        Due.test("Promise 19", "0 if f is not good or absent", LiveSetTest::liveWhereAbsent);
        Due.end();
    }

    private static int filesThere(SyntheticChain x) {
        int count = 0;
        for (int f = 0; f < 16; f++) {
            count += x.liveThere(f);
        }
        return count;
    }

    private static void noPointsAtFirst() {
        SyntheticChain x = new SyntheticChain();
        Due.is("points()", x.points(), 0);
        Due.is("dayOf(0)", x.dayOf(0), -1);
        Due.is("pinned(0)", x.pinned(0), -1);
        Due.is("there(0, 0)", x.there(0, 0), -1);
        Due.is("differing(0, 0)", x.differing(0, 0), -1);
        Due.is("versions(0)", x.versions(0), 0);
        Due.is("take(0)", x.take(0), 0);
    }

    private static void objectsAreApart() {
        SyntheticChain x = State.fullOfPoints().made();
        SyntheticChain y = new SyntheticChain();
        Due.is("points() of another object", y.points(), 0);
        Due.is("files there in another object", filesThere(y), 0);
        Due.is("advance(1) of another object", y.advance(1), 1);
        y.put(0, -1);
        y.take(0);
        y.pin(0, 1);
        Due.is("points() of the first object", x.points(), 14);
        Due.is("content(0, 0) of the first object", x.content(0, 0), 1);
        Due.is("pinned(0) of the first object", x.pinned(0), 0);
    }

    private static void put() {
        for (int f = 0; f < 16; f++) {
            SyntheticChain x = new SyntheticChain();
            for (int content : new int[] {5, MIN, 0, MAX, -1}) {
                x.put(f, content);
                Due.is("liveThere(" + f + ") after put of " + content, x.liveThere(f), 1);
                Due.is("live(" + f + ") after put of " + content, x.live(f), content);
            }
            Due.is("files there after puts of " + f, filesThere(x), 1);
        }
    }

    private static void putOfBadFile() {
        SyntheticChain x = new SyntheticChain();
        for (int bad : State.BAD_FILES) {
            Due.is("put(" + bad + ", 7)", x.put(bad, 7), -1);
        }
        Due.is("files there", filesThere(x), 0);
    }

    private static void putWhereThere() {
        SyntheticChain x = State.allThere().made();
        for (int f = 0; f < 16; f++) {
            Due.is("put(" + f + ", 0)", x.put(f, 0), 1);
            Due.is("put(" + f + ", 0) on content 0", x.put(f, 0), 1);
        }
    }

    private static void putWhereAbsent() {
        SyntheticChain x = new SyntheticChain();
        for (int f = 0; f < 16; f++) {
            Due.is("put(" + f + ", 0)", x.put(f, 0), 0);
            x.delete(f);
            Due.is("put(" + f + ", 1) when deleted", x.put(f, 1), 0);
        }
        x.rename(0, 1);
        Due.is("put(0, 1) when renamed", x.put(0, 1), 0);
    }

    private static void delete() {
        for (int f = 0; f < 16; f++) {
            SyntheticChain x = State.allThere().made();
            x.delete(f);
            Due.is("liveThere(" + f + ")", x.liveThere(f), 0);
            Due.is("live(" + f + ")", x.live(f), 0);
            Due.is("files there", filesThere(x), 15);
        }
    }

    private static void deleteOfBadFile() {
        SyntheticChain x = State.allThere().made();
        for (int bad : State.BAD_FILES) {
            Due.is("delete(" + bad + ")", x.delete(bad), -1);
        }
        Due.is("files there", filesThere(x), 16);
    }

    private static void deleteWhereThere() {
        SyntheticChain x = State.allThere().then(Call.put(3, 0)).made();
        for (int f = 0; f < 16; f++) {
            Due.is("delete(" + f + ")", x.delete(f), 1);
        }
    }

    private static void deleteWhereAbsent() {
        SyntheticChain x = new SyntheticChain();
        for (int f = 0; f < 16; f++) {
            Due.is("delete(" + f + ")", x.delete(f), 0);
            x.put(f, 1);
            x.delete(f);
            Due.is("delete(" + f + ") again", x.delete(f), 0);
        }
    }

    private static void renameTo() {
        SyntheticChain x = new SyntheticChain();
        x.put(0, 10);
        x.rename(0, 15);
        Due.is("liveThere(15), absent before", x.liveThere(15), 1);
        Due.is("live(15), absent before", x.live(15), 10);
        x.put(4, 44);
        x.rename(15, 4);
        Due.is("live(4), there before", x.live(4), 10);
        x.put(4, 0);
        x.rename(4, 5);
        Due.is("liveThere(5), content 0", x.liveThere(5), 1);
        Due.is("live(5), content 0", x.live(5), 0);
        x.put(6, MIN);
        x.rename(6, 5);
        Due.is("live(5), least content", x.live(5), MIN);
    }

    private static void renameFrom() {
        SyntheticChain x = State.allThere().made();
        for (int from = 0; from < 15; from++) {
            x.rename(from, 15);
            Due.is("liveThere(" + from + ")", x.liveThere(from), 0);
            Due.is("live(" + from + ")", x.live(from), 0);
        }
        x.rename(15, 0);
        Due.is("liveThere(15)", x.liveThere(15), 0);
        Due.is("live(15)", x.live(15), 0);
        Due.is("live(0)", x.live(0), 114);
        Due.is("files there", filesThere(x), 1);
    }

    private static void renameOfBadFile() {
        SyntheticChain x = State.allThere().made();
        for (int bad : State.BAD_FILES) {
            Due.is("rename(" + bad + ", 1)", x.rename(bad, 1), -1);
            Due.is("rename(1, " + bad + ")", x.rename(1, bad), -1);
        }
        Due.is("rename(-1, 16)", x.rename(-1, 16), -1);
        Due.is("live(1)", x.live(1), 101);
        Due.is("files there", filesThere(x), 16);
    }

    private static void renameToItself() {
        for (int f = 0; f < 16; f++) {
            SyntheticChain x = State.allThere().made();
            Due.is("rename(" + f + ", " + f + ")", x.rename(f, f), -2);
            Due.is("liveThere(" + f + ")", x.liveThere(f), 1);
            Due.is("live(" + f + ")", x.live(f), 100 + f);
        }
    }

    private static void renameOfAbsent() {
        SyntheticChain x = new SyntheticChain();
        x.put(1, 11);
        Due.is("rename(3, 1)", x.rename(3, 1), -3);
        Due.is("rename(0, 15)", x.rename(0, 15), -3);
        Due.is("rename(15, 0)", x.rename(15, 0), -3);
        Due.is("live(1)", x.live(1), 11);
        Due.is("files there", filesThere(x), 1);
        x.delete(1);
        Due.is("rename(1, 2) when deleted", x.rename(1, 2), -3);
    }

    private static void renameAnswers() {
        SyntheticChain x = new SyntheticChain();
        x.put(0, 0);
        Due.is("rename(0, 15)", x.rename(0, 15), 0);
        Due.is("rename(15, 0)", x.rename(15, 0), 0);
        x.put(1, 5);
        Due.is("rename(0, 1) onto a file that is there", x.rename(0, 1), 0);
    }

    private static void rewrite() {
        SyntheticChain x = State.allThere().made();
        x.rewrite(0, 1000, -3);
        for (int f = 0; f < 16; f++) {
            Due.is("live(" + f + ")", x.live(f), 1000 - 3 * f);
        }
        x.rewrite(0, 0, 0);
        Due.is("liveThere(0), content 0", x.liveThere(0), 1);
        Due.is("live(0), content 0", x.live(0), 0);
    }

    private static void rewriteLeavesAbsent() {
        SyntheticChain x = State.allThere().then(Call.delete(0)).then(Call.delete(9)).then(Call.delete(15)).made();
        x.rewrite(0, 7, 7);
        for (int f : new int[] {0, 9, 15}) {
            Due.is("liveThere(" + f + ")", x.liveThere(f), 0);
            Due.is("live(" + f + ")", x.live(f), 0);
        }
        Due.is("files there", filesThere(x), 13);
    }

    private static void rewriteFrom() {
        for (int first = 0; first < 16; first++) {
            SyntheticChain x = State.allThere().made();
            x.rewrite(first, -1, 0);
            for (int f = 0; f < 16; f++) {
                Due.is("live(" + f + ") after rewrite(" + first + ")", x.live(f), f < first ? 100 + f : -1);
            }
        }
    }

    private static void rewriteWraps() {
        SyntheticChain x = State.allThere().made();
        x.rewrite(0, MAX, 1);
        Due.is("live(0), the greatest content", x.live(0), MAX);
        Due.is("live(1), one more", x.live(1), MIN);
        Due.is("live(15)", x.live(15), MIN + 14);
        x.rewrite(0, MIN, -1);
        Due.is("live(0), the least content", x.live(0), MIN);
        Due.is("live(1), one less", x.live(1), MAX);
        x.rewrite(0, 0, 0x40000001);
        Due.is("live(3), the product wraps", x.live(3), 0xC0000003);
        Due.is("live(4), the product wraps", x.live(4), 4);
        x.rewrite(0, MIN, MIN);
        Due.is("live(1), the sum wraps to 0", x.live(1), 0);
        Due.is("live(2), the product wraps to 0", x.live(2), MIN);
        x.rewrite(0, 1, MAX);
        Due.is("live(15), the greatest step", x.live(15), MAX - 13);
    }

    private static void rewriteOfBadFile() {
        SyntheticChain x = State.allThere().made();
        for (int bad : State.BAD_FILES) {
            Due.is("rewrite(" + bad + ", 5, 5)", x.rewrite(bad, 5, 5), -1);
        }
        Due.is("live(0)", x.live(0), 100);
        Due.is("live(15)", x.live(15), 115);
    }

    private static void rewriteAnswers() {
        SyntheticChain x = State.allThere().made();
        for (int first = 0; first < 16; first++) {
            Due.is("rewrite(" + first + ", 2, 0)", x.rewrite(first, 2, 0), 16 - first);
        }
        Due.is("rewrite(0, 2, 0), contents as before", x.rewrite(0, 2, 0), 16);
        x.delete(15);
        Due.is("rewrite(15, 2, 0), absent", x.rewrite(15, 2, 0), 0);
        Due.is("rewrite(14, 2, 0)", x.rewrite(14, 2, 0), 1);
        Due.is("rewrite(0, 2, 0) with no files there", new SyntheticChain().rewrite(0, 2, 0), 0);
    }

    private static void advance() {
        SyntheticChain x = new SyntheticChain();
        x.advance(1);
        x.take(0);
        x.advance(60);
        x.take(0);
        Due.is("dayOf(0)", x.dayOf(0), 1);
        Due.is("dayOf(1)", x.dayOf(1), 61);
    }

    private static void advanceTooFewOrMany() {
        SyntheticChain x = new SyntheticChain();
        for (int bad : new int[] {0, 61, -1, -60, MIN, MAX}) {
            Due.is("advance(" + bad + ")", x.advance(bad), -1);
        }
        x.take(0);
        Due.is("dayOf(0)", x.dayOf(0), 0);
        for (int days = 1; days <= 60; days++) {
            Due.is("advance(" + days + ")", new SyntheticChain().advance(days), days);
        }
    }

    private static SyntheticChain onDay(int day) {
        SyntheticChain x = new SyntheticChain();
        for (int today = 0; today < day; ) {
            today = x.advance(Math.min(60, day - today));
        }
        return x;
    }

    private static void advancePastTheLastDay() {
        for (int days = 1; days <= 60; days++) {
            SyntheticChain x = onDay(5001 - days);
            Due.is("advance(" + days + ") to 5001", x.advance(days), -2);
            x.take(0);
            Due.is("dayOf(0) after it", x.dayOf(0), 5001 - days);
            SyntheticChain y = onDay(5000 - days);
            Due.is("advance(" + days + ") to 5000", y.advance(days), 5000);
            Due.is("advance(1) from 5000", y.advance(1), -2);
            Due.is("advance(60) from 5000", y.advance(60), -2);
        }
    }

    private static void advanceAnswers() {
        SyntheticChain x = new SyntheticChain();
        for (int day = 60; day <= 4980; day += 60) {
            Due.is("advance(60)", x.advance(60), day);
        }
        Due.is("advance(1)", x.advance(1), 4981);
        Due.is("advance(19)", x.advance(19), 5000);
    }

    private static void liveThereWhereThere() {
        SyntheticChain x = State.allThere().then(Call.put(4, 0)).made();
        for (int f = 0; f < 16; f++) {
            Due.is("liveThere(" + f + ")", x.liveThere(f), 1);
        }
    }

    private static void liveThereWhereAbsent() {
        SyntheticChain x = State.emptiedAgain().made();
        for (int f = 0; f < 16; f++) {
            Due.is("liveThere(" + f + ")", x.liveThere(f), 0);
        }
    }

    private static void liveThereOfBadFile() {
        SyntheticChain x = State.allThere().then(Call.take(0)).made();
        for (int bad : State.BAD_FILES) {
            Due.is("liveThere(" + bad + ")", x.liveThere(bad), -1);
        }
    }

    private static void live() {
        SyntheticChain x = State.allThere().then(Call.put(0, MIN)).then(Call.put(15, MAX)).made();
        for (int f = 1; f < 15; f++) {
            Due.is("live(" + f + ")", x.live(f), 100 + f);
        }
        Due.is("live(0)", x.live(0), MIN);
        Due.is("live(15)", x.live(15), MAX);
    }

    private static void liveOfBadFile() {
        SyntheticChain x = State.fullOfPoints().then(Call.put(15, 15)).made();
        for (int bad : State.BAD_FILES) {
            Due.is("live(" + bad + ")", x.live(bad), 0);
        }
    }

    private static void liveWhereAbsent() {
        SyntheticChain x = State.emptiedAgain().made();
        for (int f = 0; f < 16; f++) {
            Due.is("live(" + f + ")", x.live(f), 0);
        }
    }
}
