/** Promises 7 to 11 and 13 to 17: taking, restoring, pinning, forgetting and asking about points. */
public final class PointsTest {
    private static final int MIN = Integer.MIN_VALUE;
    private static final int MAX = Integer.MAX_VALUE;
    // Not good where there are three points.
    private static final int[] BAD_POINTS = {-1, 3, 4, 13, 14, MIN, MAX};

    public static void main(String[] args) {
        Due.test("Promise 7", "Takes a point", PointsTest::take);
        Due.test("Promise 7", "way (0 .. 2) says how it is stored and changes no answer of any call",
            PointsTest::wayChangesNoAnswer);
        Due.test("Promise 7", "-1 if way is not in 0 .. 2", PointsTest::takeOfBadWay);
        Due.test("Promise 7", "-2 if there are 14 points", PointsTest::takeWhenFull);
        Due.test("Promise 7", "otherwise answers the new point's position", PointsTest::takeAnswers);

        Due.test("Promise 8", "The live set becomes what point p holds.", PointsTest::restore);
        Due.test("Promise 8", "-1 if p is not good", PointsTest::restoreOfBadPoint);
        Due.test("Promise 8", "otherwise answers how many files of the live set were changed by that"
            + " (absent or there, or content)", PointsTest::restoreAnswers);

        Due.test("Promise 9", "Only file f of the live set becomes what point p holds of it.", PointsTest::restoreFile);
        Due.test("Promise 9", "-1 if p is not good", PointsTest::restoreFileOfBadPoint);
        Due.test("Promise 9", "-2 if f is not good", PointsTest::restoreFileOfBadFile);
        Due.test("Promise 9", "1 if that changed it", PointsTest::restoreFileChanges);
        Due.test("Promise 9", "0 if not", PointsTest::restoreFileChangesNot);

        Due.test("Promise 10", "Pins point p (flag not 0)", PointsTest::pins);
        Due.test("Promise 10", "or unpins it (flag 0)", PointsTest::unpins);
        Due.test("Promise 10", "-1 if p is not good", PointsTest::pinOfBadPoint);
        Due.test("Promise 10", "1 if it was pinned before, else 0", PointsTest::pinAnswers);

        Due.test("Promise 11", "Takes point p out", PointsTest::forget);
        Due.test("Promise 11", "later points move down by one position", PointsTest::forgetMovesLaterDown);
        Due.test("Promise 11", "-1 if p is not good", PointsTest::forgetOfBadPoint);
        Due.test("Promise 11", "-2 if it is pinned", PointsTest::forgetOfPinned);
        Due.test("Promise 11", "otherwise answers how many points are left", PointsTest::forgetAnswers);

        Due.test("Promise 13", "How many points there are.", PointsTest::points);

        Due.test("Promise 14", "The day of point p", PointsTest::dayOf);
        Due.test("Promise 14", "-1 if p is not good", PointsTest::dayOfBadPoint);

        Due.test("Promise 15", "1 if point p is pinned, otherwise 0", PointsTest::pinned);
        Due.test("Promise 15", "-1 if p is not good", PointsTest::pinnedOfBadPoint);

        Due.test("Promise 16", "1 if file f is there in point p, 0 if it is absent.", PointsTest::there);
        Due.test("Promise 16", "-1 if p is not good", PointsTest::thereOfBadPoint);
        Due.test("Promise 16", "-2 if f is not good", PointsTest::thereOfBadFile);

        Due.test("Promise 17", "The content of file f in point p", PointsTest::content);
        String none = "0 if p or f is not good or f is absent there";
        Due.test("Promise 17", none, PointsTest::contentOfBadPoint);
        Due.test("Promise 17", none, PointsTest::contentOfBadFile);
        Due.test("Promise 17", none, PointsTest::contentWhereAbsent);
        Due.end();
    }

    private static SyntheticChain three() {
        return State.threePoints().made();
    }

    private static void take() {
        SyntheticChain x = new SyntheticChain();
        x.take(0);
        Due.is("points()", x.points(), 1);
        for (int f = 0; f < 16; f++) {
            Due.is("there(0, " + f + ") of the empty live set", x.there(0, f), 0);
            x.put(f, -f);
        }
        x.take(0);
        for (int f = 0; f < 16; f++) {
            Due.is("there(1, " + f + ") of the full live set", x.there(1, f), 1);
            Due.is("content(1, " + f + ")", x.content(1, f), -f);
            Due.is("live(" + f + ") stays", x.live(f), -f);
        }
        x.advance(9);
        x.take(0);
        Due.is("dayOf(2)", x.dayOf(2), 9);
    }

    private static void wayChangesNoAnswer() {
        State plain = takenByWays(0);
        for (int ways = 1; ways < 81; ways++) {
            State state = takenByWays(ways);
            Call[] calls = {Call.forget(0), Call.forget(1), Call.forget(3), Call.prune(0), Call.prune(20), Call.restore(1)};
            Due.same(state.words(), state.whole(), plain.whole());
            for (Call call : calls) {
                Due.same(state.words() + " and " + call.words(), state.then(call).whole(), plain.then(call).whole());
            }
        }
    }

    /** Four points, whose ways are the digits of this number to the base 3. */
    private static State takenByWays(int ways) {
        return new State("ways " + ways, x -> {
            x.put(3, 30);
            x.take(ways % 3);
            x.put(4, 40);
            x.advance(6);
            x.take(ways / 3 % 3);
            x.delete(3);
            x.advance(1);
            x.take(ways / 9 % 3);
            x.put(3, 30);
            x.rename(4, 5);
            x.take(ways / 27);
            x.put(5, 0);
        });
    }

    private static void takeOfBadWay() {
        SyntheticChain x = new SyntheticChain();
        for (int bad : new int[] {-1, 3, -2, MIN, MAX}) {
            Due.is("take(" + bad + ")", x.take(bad), -1);
        }
        Due.is("points()", x.points(), 0);
        for (int way = 0; way <= 2; way++) {
            Due.is("take(" + way + ")", x.take(way), way);
        }
    }

    private static void takeWhenFull() {
        SyntheticChain x = State.fullOfPoints().then(Call.put(0, 99)).then(Call.advance(1)).made();
        for (int way = 0; way <= 2; way++) {
            Due.is("take(" + way + ")", x.take(way), -2);
        }
        Due.is("points()", x.points(), 14);
        Due.is("dayOf(13)", x.dayOf(13), 14);
        Due.is("content(13, 0)", x.content(13, 0), 1);
        Due.is("live(0)", x.live(0), 99);
        x.forget(6);
        Due.is("take(0) at 13 points", x.take(0), 13);
        Due.is("content(13, 0)", x.content(13, 0), 99);
        Due.is("take(0) at 14 points again", x.take(0), -2);
        x.prune(0);
        Due.is("take(0) after prune(0)", x.take(0), 1);
    }

    private static void takeAnswers() {
        SyntheticChain x = new SyntheticChain();
        for (int p = 0; p < 14; p++) {
            Due.is("take(" + p % 3 + ")", x.take(p % 3), p);
        }
        x.forget(0);
        x.forget(0);
        Due.is("take(0) at 12 points", x.take(0), 12);
    }

    private static void restore() {
        SyntheticChain x = three();
        x.restore(1);
        for (int f = 0; f < 16; f++) {
            Due.is("liveThere(" + f + ")", x.liveThere(f), f == 0 || f == 15 ? 1 : 0);
            Due.is("live(" + f + ")", x.live(f), f == 0 ? 10 : 0);
        }
        Due.is("today stays", x.advance(1), 6);
        Due.is("points() stays", x.points(), 3);
        x.put(0, 99);
        Due.is("content(1, 0) after a put", x.content(1, 0), 10);
        SyntheticChain y = State.ofNew().then(Call.take(0)).then(Call.put(0, 1)).then(Call.put(15, 0)).made();
        y.restore(0);
        Due.is("liveThere(0) of an empty point", y.liveThere(0), 0);
        Due.is("live(0) of an empty point", y.live(0), 0);
        Due.is("liveThere(15) of an empty point", y.liveThere(15), 0);
    }

    private static void restoreOfBadPoint() {
        SyntheticChain x = three();
        for (int bad : BAD_POINTS) {
            Due.is("restore(" + bad + ")", x.restore(bad), -1);
        }
        Due.is("live(1)", x.live(1), 1);
        Due.is("live(15)", x.live(15), 7);
        Due.is("restore(0) with no points", State.allThere().made().restore(0), -1);
    }

    private static void restoreAnswers() {
        SyntheticChain x = three();
        Due.is("restore(1)", x.restore(1), 3);
        Due.is("restore(1) again", x.restore(1), 0);
        Due.is("restore(0), content 0 becomes absent", x.restore(0), 1);
        Due.is("restore(1), absent becomes content 0", x.restore(1), 1);
        x.put(0, 11);
        Due.is("restore(1), other content", x.restore(1), 1);
        SyntheticChain all = State.ofNew().then(Call.take(0)).made();
        Due.is("restore(0), nothing there", all.restore(0), 0);
        for (int f = 0; f < 16; f++) {
            all.put(f, 0);
        }
        all.take(0);
        Due.is("restore(0), all were there", all.restore(0), 16);
        Due.is("restore(1), all were absent", all.restore(1), 16);
    }

    private static void restoreFile() {
        SyntheticChain x = three();
        x.restoreFile(1, 15);
        Due.is("liveThere(15), content 0", x.liveThere(15), 1);
        Due.is("live(15), content 0", x.live(15), 0);
        x.restoreFile(0, 15);
        Due.is("liveThere(15), absent", x.liveThere(15), 0);
        x.restoreFile(0, 0);
        Due.is("live(0)", x.live(0), 10);
        Due.is("live(1) stays", x.live(1), 1);
        for (int f = 0; f < 16; f++) {
            SyntheticChain y = State.ofNew().then(Call.take(0)).made();
            for (int g = 0; g < 16; g++) {
                y.put(g, g);
            }
            y.restoreFile(0, f);
            Due.is("liveThere(" + f + ")", y.liveThere(f), 0);
            Due.is("live(" + f + ")", y.live(f), 0);
            Due.is("files that stay", y.changedSince(0), 15);
        }
    }

    private static void restoreFileOfBadPoint() {
        SyntheticChain x = three();
        for (int bad : BAD_POINTS) {
            Due.is("restoreFile(" + bad + ", 0)", x.restoreFile(bad, 0), -1);
            Due.is("restoreFile(" + bad + ", 15)", x.restoreFile(bad, 15), -1);
            Due.is("restoreFile(" + bad + ", 16)", x.restoreFile(bad, 16), -1);
        }
        Due.is("live(15)", x.live(15), 7);
        Due.is("restoreFile(0, 0) with no points", State.allThere().made().restoreFile(0, 0), -1);
    }

    private static void restoreFileOfBadFile() {
        SyntheticChain x = three();
        for (int bad : State.BAD_FILES) {
            Due.is("restoreFile(0, " + bad + ")", x.restoreFile(0, bad), -2);
            Due.is("restoreFile(2, " + bad + ")", x.restoreFile(2, bad), -2);
        }
        Due.is("changedSince(2)", x.changedSince(2), 1);
    }

    private static void restoreFileChanges() {
        SyntheticChain x = three();
        Due.is("restoreFile(1, 15), other content", x.restoreFile(1, 15), 1);
        Due.is("restoreFile(0, 15), content 0 becomes absent", x.restoreFile(0, 15), 1);
        Due.is("restoreFile(1, 15), absent becomes content 0", x.restoreFile(1, 15), 1);
        Due.is("restoreFile(0, 0), absent becomes there", x.restoreFile(0, 0), 1);
        Due.is("restoreFile(2, 0), there becomes absent", x.restoreFile(2, 0), 1);
    }

    private static void restoreFileChangesNot() {
        SyntheticChain x = three();
        Due.is("restoreFile(2, 9), absent in both", x.restoreFile(2, 9), 0);
        Due.is("restoreFile(2, 15), same content", x.restoreFile(2, 15), 0);
        x.restoreFile(1, 15);
        Due.is("restoreFile(1, 15) again, content 0 in both", x.restoreFile(1, 15), 0);
    }

    private static void pins() {
        for (int flag : new int[] {1, -1, 2, 256, MIN, MAX}) {
            SyntheticChain x = three();
            x.pin(1, flag);
            Due.is("pinned(0) after pin(1, " + flag + ")", x.pinned(0), 0);
            Due.is("pinned(1) after pin(1, " + flag + ")", x.pinned(1), 1);
            Due.is("pinned(2) after pin(1, " + flag + ")", x.pinned(2), 0);
            x.pin(1, flag);
            Due.is("pinned(1) after it again", x.pinned(1), 1);
        }
    }

    private static void unpins() {
        SyntheticChain x = three();
        x.pin(1, 0);
        Due.is("pinned(1), not pinned before", x.pinned(1), 0);
        for (int p = 0; p < 3; p++) {
            x.pin(p, 1);
        }
        x.pin(1, 0);
        Due.is("pinned(0)", x.pinned(0), 1);
        Due.is("pinned(1)", x.pinned(1), 0);
        Due.is("pinned(2)", x.pinned(2), 1);
        Due.is("forget(1)", x.forget(1), 2);
    }

    private static void pinOfBadPoint() {
        SyntheticChain x = three();
        x.pin(2, 1);
        for (int bad : BAD_POINTS) {
            Due.is("pin(" + bad + ", 1)", x.pin(bad, 1), -1);
            Due.is("pin(" + bad + ", 0)", x.pin(bad, 0), -1);
        }
        Due.is("pinned(0)", x.pinned(0), 0);
        Due.is("pinned(2)", x.pinned(2), 1);
        Due.is("pin(0, 1) with no points", new SyntheticChain().pin(0, 1), -1);
    }

    private static void pinAnswers() {
        SyntheticChain x = three();
        Due.is("pin(0, 0), not pinned", x.pin(0, 0), 0);
        Due.is("pin(0, 1), not pinned", x.pin(0, 1), 0);
        Due.is("pin(0, -1), pinned", x.pin(0, -1), 1);
        Due.is("pin(0, 0), pinned", x.pin(0, 0), 1);
        Due.is("pin(0, 0), unpinned", x.pin(0, 0), 0);
        x.pin(2, 1);
        x.forget(0);
        Due.is("pin(1, 0), pinned before it moved", x.pin(1, 0), 1);
    }

    private static void forget() {
        for (int gone = 0; gone < 14; gone++) {
            SyntheticChain x = State.fullOfPoints().then(Call.forget(gone)).made();
            Due.is("points()", x.points(), 13);
            for (int p = 0; p < 13; p++) {
                Due.is("dayOf(" + p + ") is not the forgotten one's", x.dayOf(p) == gone + 1 ? 1 : 0, 0);
            }
            Due.is("live(13) stays", x.live(13), 14);
            Due.is("today stays", x.advance(1), 15);
        }
    }

    private static void forgetMovesLaterDown() {
        SyntheticChain x = three();
        x.pin(2, 1);
        x.forget(1);
        Due.is("dayOf(0)", x.dayOf(0), 0);
        Due.is("content(0, 0)", x.content(0, 0), 10);
        Due.is("pinned(0)", x.pinned(0), 0);
        Due.is("dayOf(1)", x.dayOf(1), 5);
        Due.is("pinned(1)", x.pinned(1), 1);
        Due.is("content(1, 15)", x.content(1, 15), 7);
        Due.is("there(1, 0)", x.there(1, 0), 0);
        Due.is("dayOf(2)", x.dayOf(2), -1);
        SyntheticChain full = State.fullOfPoints().then(Call.pin(13, 1)).then(Call.forget(0)).made();
        for (int p = 0; p < 13; p++) {
            Due.is("dayOf(" + p + ") of 14, the first forgotten", full.dayOf(p), p + 2);
            Due.is("pinned(" + p + ")", full.pinned(p), p == 12 ? 1 : 0);
        }
        SyntheticChain last = State.fullOfPoints().then(Call.forget(13)).made();
        Due.is("dayOf(12), the last forgotten", last.dayOf(12), 13);
        Due.is("dayOf(13), the last forgotten", last.dayOf(13), -1);
    }

    private static void forgetOfBadPoint() {
        SyntheticChain x = three();
        for (int bad : BAD_POINTS) {
            Due.is("forget(" + bad + ")", x.forget(bad), -1);
        }
        Due.is("points()", x.points(), 3);
        Due.is("forget(0) with no points", new SyntheticChain().forget(0), -1);
        Due.is("forget(14) of 14", State.fullOfPoints().made().forget(14), -1);
        Due.is("forget(0) when none is left", State.emptiedAgain().made().forget(0), -1);
    }

    private static void forgetOfPinned() {
        for (int p = 0; p < 14; p++) {
            SyntheticChain x = State.fullOfPoints().then(Call.pin(p, 1)).made();
            Due.is("forget(" + p + ")", x.forget(p), -2);
            Due.is("points()", x.points(), 14);
            Due.is("dayOf(" + p + ")", x.dayOf(p), p + 1);
            x.pin(p, 0);
            Due.is("forget(" + p + ") when unpinned", x.forget(p), 13);
        }
    }

    private static void forgetAnswers() {
        SyntheticChain x = State.fullOfPoints().made();
        for (int left = 13; left >= 0; left--) {
            Due.is("forget(0)", x.forget(0), left);
        }
        SyntheticChain y = State.fullOfPoints().made();
        for (int left = 13; left >= 0; left--) {
            Due.is("forget(" + left + ")", y.forget(left), left);
        }
    }

    private static void points() {
        SyntheticChain x = new SyntheticChain();
        Due.is("points() at first", x.points(), 0);
        for (int p = 0; p < 14; p++) {
            x.take(p % 3);
            Due.is("points()", x.points(), p + 1);
        }
        x.take(0);
        Due.is("points() after a refused take", x.points(), 14);
        x.forget(7);
        Due.is("points() after forget(7)", x.points(), 13);
        x.prune(0);
        Due.is("points() after prune(0)", x.points(), 1);
        x.forget(0);
        Due.is("points() after forget(0)", x.points(), 0);
    }

    private static void dayOf() {
        SyntheticChain x = three();
        Due.is("dayOf(0)", x.dayOf(0), 0);
        Due.is("dayOf(1)", x.dayOf(1), 2);
        Due.is("dayOf(2)", x.dayOf(2), 5);
        SyntheticChain late = State.onTheLastDay().made();
        Due.is("dayOf(0) late", late.dayOf(0), 4980);
        Due.is("dayOf(1) on the last day", late.dayOf(1), 5000);
    }

    private static void dayOfBadPoint() {
        SyntheticChain x = three();
        for (int bad : BAD_POINTS) {
            Due.is("dayOf(" + bad + ")", x.dayOf(bad), -1);
        }
        Due.is("dayOf(0) with no points", new SyntheticChain().dayOf(0), -1);
        Due.is("dayOf(14) of 14", State.fullOfPoints().made().dayOf(14), -1);
    }

    private static void pinned() {
        SyntheticChain x = three();
        Due.is("pinned(0)", x.pinned(0), 0);
        x.pin(0, 1);
        x.pin(2, 1);
        Due.is("pinned(0), pinned", x.pinned(0), 1);
        Due.is("pinned(1), between pinned ones", x.pinned(1), 0);
        Due.is("pinned(2), pinned", x.pinned(2), 1);
        x.pin(2, 0);
        Due.is("pinned(2), unpinned", x.pinned(2), 0);
    }

    private static void pinnedOfBadPoint() {
        SyntheticChain x = three();
        x.pin(0, 1);
        x.pin(2, 1);
        for (int bad : BAD_POINTS) {
            Due.is("pinned(" + bad + ")", x.pinned(bad), -1);
        }
        Due.is("pinned(0) with no points", new SyntheticChain().pinned(0), -1);
        Due.is("pinned(14) of 14", State.fullOfPoints().made().pinned(14), -1);
    }

    private static void there() {
        SyntheticChain x = three();
        Due.is("there(0, 0)", x.there(0, 0), 1);
        Due.is("there(0, 15)", x.there(0, 15), 0);
        Due.is("there(1, 15), content 0", x.there(1, 15), 1);
        Due.is("there(2, 0), deleted", x.there(2, 0), 0);
        Due.is("there(2, 15)", x.there(2, 15), 1);
        Due.is("there(2, 1), put after it", x.there(2, 1), 0);
    }

    private static void thereOfBadPoint() {
        SyntheticChain x = three();
        for (int bad : BAD_POINTS) {
            Due.is("there(" + bad + ", 15)", x.there(bad, 15), -1);
            Due.is("there(" + bad + ", 16)", x.there(bad, 16), -1);
        }
        Due.is("there(0, 0) with no points", State.allThere().made().there(0, 0), -1);
        Due.is("there(14, 0) of 14", State.fullOfPoints().made().there(14, 0), -1);
    }

    private static void thereOfBadFile() {
        SyntheticChain x = three();
        for (int bad : State.BAD_FILES) {
            Due.is("there(0, " + bad + ")", x.there(0, bad), -2);
            Due.is("there(2, " + bad + ")", x.there(2, bad), -2);
        }
    }

    private static void content() {
        SyntheticChain x = State.threePoints().then(Call.put(0, MIN)).then(Call.put(15, MAX)).then(Call.take(0)).made();
        Due.is("content(0, 0)", x.content(0, 0), 10);
        Due.is("content(1, 15), content 0", x.content(1, 15), 0);
        Due.is("content(2, 15)", x.content(2, 15), 7);
        Due.is("content(3, 0)", x.content(3, 0), MIN);
        Due.is("content(3, 15)", x.content(3, 15), MAX);
    }

    private static void contentOfBadPoint() {
        SyntheticChain x = three();
        for (int bad : BAD_POINTS) {
            Due.is("content(" + bad + ", 15)", x.content(bad, 15), 0);
            Due.is("content(" + bad + ", 16)", x.content(bad, 16), 0);
        }
        Due.is("content(0, 0) with no points", State.allThere().made().content(0, 0), 0);
        Due.is("content(14, 0) of 14", State.fullOfPoints().made().content(14, 0), 0);
        Due.is("content(13, 0) when forgotten", State.fullOfPoints().then(Call.forget(13)).made().content(13, 0), 0);
    }

    private static void contentOfBadFile() {
        SyntheticChain x = State.fullOfPoints().made();
        for (int bad : State.BAD_FILES) {
            for (int p : new int[] {0, 1, 13}) {
                Due.is("content(" + p + ", " + bad + ")", x.content(p, bad), 0);
            }
        }
    }

    private static void contentWhereAbsent() {
        SyntheticChain x = State.allThere().then(Call.delete(0)).then(Call.rename(14, 15)).then(Call.take(0)).made();
        x.rewrite(0, 9, 9);
        x.put(0, 9);
        Due.is("content(0, 0), deleted", x.content(0, 0), 0);
        Due.is("content(0, 14), renamed", x.content(0, 14), 0);
        SyntheticChain full = State.fullOfPoints().made();
        Due.is("content(0, 1), put later", full.content(0, 1), 0);
        Due.is("content(13, 15), never there", full.content(13, 15), 0);
    }
}
