import java.util.ArrayList;
import java.util.List;

/** The sentences under 'What it is' and 'Terms', each with a test of its own. */
public final class TermsTest {
    private static final int MIN = Integer.MIN_VALUE;
    private static final int MAX = Integer.MAX_VALUE;
    private static final int[] NEVER_POINTS = {-1, 14, 15, -14, MIN, MAX};

    public static void main(String[] args) {
        Due.test("What it is", "An object is used for at most 512 calls after it has been made", TermsTest::the512thCall);
        Due.test("What it is", "what later calls answer is free", TermsTest::laterCallsEnd);
        Due.test("Terms", "FILES are numbered 0 .. 15.", TermsTest::sixteenFiles);
        Due.test("Terms", "In the LIVE SET a file is absent or there, with a content (any int)", TermsTest::anyContent);
        Due.test("Terms", "all are absent at first", TermsTest::absentAtFirst);
        Due.test("Terms", "TODAY is a day number, 0 at first.", TermsTest::dayAtFirst);
        Due.test("Terms", "A POINT holds the state that all files (absent, or there with which content)"
            + " had in the live set when it was taken", TermsTest::pointHoldsItsState);
        Due.test("Terms", "and the day on which it was taken", TermsTest::pointHoldsItsDay);
        Due.test("Terms", "The points stand in the order in which they were taken,"
            + " at the positions 0 .. points()-1", TermsTest::orderOfPoints);
        Due.test("Terms", "at most 14 are kept", TermsTest::mostPoints);
        Due.test("Terms", "A point may be PINNED; it is not when it is taken.", TermsTest::notPinnedWhenTaken);
        String others = "Taking, forgetting or pruning points never changes what other points hold.";
        Due.test("Terms", others, TermsTest::takingLeavesOthers);
        Due.test("Terms", others, TermsTest::forgettingLeavesOthers);
        Due.test("Terms", others, TermsTest::pruningLeavesOthers);
        Due.test("Terms", "No question changes anything.", TermsTest::questionsChangeNothing);
        Due.test("Terms", "A refused call changes nothing.", TermsTest::refusedCallsChangeNothing);
        Due.test("Terms", "In every method the tests are made in the order named", TermsTest::orderOfTests);
        Due.test("Terms", "a file's number is good if it is 0 .. 15", TermsTest::goodFiles);
        Due.test("Terms", "a point's position if it is 0 .. points()-1", TermsTest::goodPoints);
        Due.end();
    }

    private static void the512thCall() {
        SyntheticChain x = new SyntheticChain();
        for (int call = 1; call <= 510; call++) {
            x.put(call % 16, call);
        }
        Due.is("the 511th call, take(0)", x.take(0), 0);
        Due.is("the 512th call, content(0, 14)", x.content(0, 14), 510);
        SyntheticChain y = new SyntheticChain();
        for (int call = 1; call <= 498; call++) {
            y.restore(0);
        }
        for (int p = 0; p < 14; p++) {
            Due.is("call " + (499 + p) + ", take(1)", y.take(1), p);
        }
    }

    /** The answers are free, but rule 7 of LANGUAGE.md lets no call throw, in any state. */
    private static void laterCallsEnd() {
        SyntheticChain x = State.fullOfPoints().made();
        List<Call> calls = new ArrayList<>(questions());
        calls.addAll(alwaysRefused(14));
        calls.addAll(List.of(Call.put(0, MAX), Call.take(0), Call.rewrite(0, MIN, MAX), Call.restore(0),
            Call.advance(60), Call.pin(0, 1), Call.forget(1), Call.prune(111), Call.rename(0, 15), Call.delete(15)));
        int ended = 0;
        while (ended < 100 * calls.size()) {
            calls.get(ended % calls.size()).on(x);
            ended++;
        }
        Due.is("calls that ended", ended, 100 * calls.size());
    }

    private static void sixteenFiles() {
        SyntheticChain x = State.allThere().made();
        x.take(0);
        for (int f = 0; f < 16; f++) {
            Due.is("liveThere(" + f + ")", x.liveThere(f), 1);
            Due.is("live(" + f + ")", x.live(f), 100 + f);
            Due.is("content(0, " + f + ")", x.content(0, f), 100 + f);
        }
    }

    private static void anyContent() {
        int[] contents = {0, 1, -1, 16, MIN, MIN + 1, MAX, MAX - 1};
        for (int content : contents) {
            SyntheticChain x = new SyntheticChain();
            x.put(15, content);
            Due.is("liveThere(15), content " + content, x.liveThere(15), 1);
            Due.is("live(15), content " + content, x.live(15), content);
            x.take(0);
            Due.is("there(0, 15), content " + content, x.there(0, 15), 1);
            Due.is("content(0, 15), content " + content, x.content(0, 15), content);
        }
    }

    private static void absentAtFirst() {
        SyntheticChain x = new SyntheticChain();
        for (int f = 0; f < 16; f++) {
            Due.is("liveThere(" + f + ")", x.liveThere(f), 0);
            Due.is("live(" + f + ")", x.live(f), 0);
        }
    }

    private static void dayAtFirst() {
        SyntheticChain x = new SyntheticChain();
        x.take(0);
        Due.is("dayOf(0)", x.dayOf(0), 0);
        Due.is("advance(1)", x.advance(1), 1);
    }

    private static void pointHoldsItsState() {
        State taken = State.allThere().then(Call.delete(9)).then(Call.put(8, 0)).then(Call.take(0));
        State other = taken.then(Call.rewrite(0, -7, 2)).then(Call.put(9, 9)).then(Call.take(0));
        Call[] changes = {Call.put(0, 1), Call.put(9, 0), Call.delete(0), Call.delete(8), Call.rename(1, 9),
            Call.rename(15, 0), Call.rewrite(0, 5, 5), Call.restore(1), Call.restoreFile(1, 8), Call.advance(1)};
        for (Call change : changes) {
            SyntheticChain x = other.then(change).made();
            for (int f = 0; f < 16; f++) {
                Due.is("there(0, " + f + ") after " + change.words(), x.there(0, f), f == 9 ? 0 : 1);
                int want = f == 8 || f == 9 ? 0 : 100 + f;
                Due.is("content(0, " + f + ") after " + change.words(), x.content(0, f), want);
            }
        }
    }

    private static void pointHoldsItsDay() {
        SyntheticChain x = new SyntheticChain();
        x.take(0);
        x.advance(60);
        x.take(1);
        x.take(2);
        x.advance(1);
        Due.is("dayOf(0)", x.dayOf(0), 0);
        Due.is("dayOf(1)", x.dayOf(1), 60);
        Due.is("dayOf(2)", x.dayOf(2), 60);
        SyntheticChain late = State.onTheLastDay().made();
        Due.is("dayOf(1) of the last day", late.dayOf(1), 5000);
    }

    private static void orderOfPoints() {
        SyntheticChain x = State.fullOfPoints().made();
        for (int p = 0; p < 14; p++) {
            Due.is("dayOf(" + p + ")", x.dayOf(p), p + 1);
        }
        x.forget(5);
        x.take(0);
        Due.is("dayOf(5) when point 5 is forgotten", x.dayOf(5), 7);
        Due.is("dayOf(12)", x.dayOf(12), 14);
        Due.is("dayOf(13) of a point taken then", x.dayOf(13), 14);
        Due.is("dayOf(14)", x.dayOf(14), -1);
    }

    private static void mostPoints() {
        SyntheticChain x = new SyntheticChain();
        for (int i = 0; i < 30; i++) {
            Due.is("take(" + i % 3 + ") at " + Math.min(i, 14) + " points", x.take(i % 3), i < 14 ? i : -2);
            Due.is("points()", x.points(), Math.min(i + 1, 14));
        }
    }

    private static void notPinnedWhenTaken() {
        SyntheticChain x = new SyntheticChain();
        for (int p = 0; p < 14; p++) {
            x.take(p % 3);
            Due.is("pinned(" + p + ")", x.pinned(p), 0);
            x.pin(p, 1);
        }
        x.pin(0, 0);
        x.forget(0);
        Due.is("take where a pinned point stood before", x.take(0), 13);
        Due.is("pinned(13)", x.pinned(13), 0);
        x.pin(11, 0);
        x.pin(12, 0);
        Due.is("prune(0)", x.prune(0), 2);
        Due.is("take where a pinned point stood before prune", x.take(0), 12);
        Due.is("pinned(12)", x.pinned(12), 0);
    }

    private static void takingLeavesOthers() {
        SyntheticChain x = State.fullOfPoints().made();
        for (int p = 0; p < 14; p++) {
            isPointOfFull(x, p, p, "14 takes");
        }
        for (int way = 0; way <= 2; way++) {
            SyntheticChain y = State.fullOfPoints().then(Call.forget(3)).then(Call.rewrite(0, 0, 0)).made();
            y.take(way);
            for (int p = 0; p < 13; p++) {
                isPointOfFull(y, p, p < 3 ? p : p + 1, "take(" + way + ")");
            }
        }
    }

    private static void forgettingLeavesOthers() {
        for (int gone = 0; gone < 14; gone++) {
            SyntheticChain x = State.fullOfPoints().then(Call.forget(gone)).made();
            for (int p = 0; p < 13; p++) {
                isPointOfFull(x, p, p < gone ? p : p + 1, "forget(" + gone + ")");
            }
        }
    }

    private static void pruningLeavesOthers() {
        for (int first = 0; first < 13; first++) {
            State pinnedTwo = State.fullOfPoints().then(Call.pin(first, 1)).then(Call.pin(12, 1));
            SyntheticChain x = pinnedTwo.then(Call.prune(0)).made();
            int left = first == 12 ? 2 : 3;
            Due.is("points()", x.points(), left);
            isPointOfFull(x, 0, first, "prune(0)");
            isPointOfFull(x, left - 2, 12, "prune(0)");
            isPointOfFull(x, left - 1, 13, "prune(0)");
        }
    }

    /** The point at this position must be the one that stood at the position number in State.fullOfPoints(). */
    private static void isPointOfFull(SyntheticChain x, int p, int number, String after) {
        Due.is("dayOf(" + p + ") after " + after, x.dayOf(p), number + 1);
        for (int f = 0; f < 16; f++) {
            Due.is("there(" + p + ", " + f + ") after " + after, x.there(p, f), f <= number ? 1 : 0);
            Due.is("content(" + p + ", " + f + ") after " + after, x.content(p, f), f <= number ? f + 1 : 0);
        }
    }

    private static List<State> states() {
        return List.of(State.ofNew(), State.allThere(), State.emptiedAgain(), State.onTheLastDay(),
            State.threePoints().then(Call.pin(1, 1)),
            State.fullOfPoints().then(Call.pin(0, 1)).then(Call.pin(13, 1)).then(Call.delete(2)));
    }

    private static void questionsChangeNothing() {
        for (State state : states()) {
            List<String> before = state.whole();
            for (Call question : questions()) {
                State after = state.then(question);
                Due.same(after.words(), after.whole(), before);
            }
        }
    }

    private static List<Call> questions() {
        int[] positions = {0, 1, 2, 13, 14, -1, MIN, MAX};
        int[] files = {0, 2, 15, 16, -1, MIN, MAX};
        List<Call> questions = new ArrayList<>(List.of(Call.points()));
        for (int p : positions) {
            questions.addAll(List.of(Call.dayOf(p), Call.pinned(p), Call.changedSince(p), Call.sum(p)));
            for (int f : files) {
                questions.add(Call.there(p, f));
                questions.add(Call.content(p, f));
            }
            for (int q : positions) {
                questions.add(Call.differing(p, q));
            }
        }
        for (int f : files) {
            questions.addAll(List.of(Call.liveThere(f), Call.live(f), Call.versions(f)));
        }
        return questions;
    }

    private static void refusedCallsChangeNothing() {
        for (State state : states()) {
            List<String> before = state.whole();
            for (Call call : alwaysRefused(state.made().points())) {
                isRefused(state, call, -1, before);
            }
            for (int f = 0; f < 16; f++) {
                isRefused(state, Call.rename(f, f), -2, before);
            }
        }
        refusedHere(State.emptiedAgain(), -3, Call.rename(0, 1), Call.rename(15, 0));
        refusedHere(State.threePoints(), -3, Call.rename(0, 1), Call.rename(14, 15), Call.rename(0, 2));
        refusedHere(State.onTheLastDay(), -2, Call.advance(1), Call.advance(60));
        refusedHere(State.fullOfPoints().then(Call.put(0, 9)), -2, Call.take(0), Call.take(1), Call.take(2));
        refusedHere(State.threePoints(), -2, Call.restoreFile(0, -1), Call.restoreFile(2, 16), Call.restoreFile(1, MAX));
        refusedHere(State.threePoints().then(Call.pin(0, 1)), -2, Call.forget(0));
        refusedHere(State.threePoints().then(Call.pin(2, 1)), -2, Call.forget(2));
    }

    /** Calls that are refused with -1 where there are so many points. */
    private static List<Call> alwaysRefused(int points) {
        List<Call> calls = new ArrayList<>();
        for (int bad : State.BAD_FILES) {
            calls.addAll(List.of(Call.put(bad, 7), Call.delete(bad), Call.rewrite(bad, 7, 7),
                Call.rename(bad, 3), Call.rename(3, bad), Call.rename(bad, bad)));
        }
        for (int bad : new int[] {0, -1, 61, MIN, MAX}) {
            calls.add(Call.advance(bad));
        }
        for (int bad : new int[] {-1, 3, MIN, MAX}) {
            calls.add(Call.take(bad));
        }
        for (int bad : new int[] {-1, 1000, MIN, MAX}) {
            calls.add(Call.prune(bad));
        }
        for (int bad : new int[] {-1, points, points + 1, 14, MIN, MAX}) {
            calls.addAll(List.of(Call.restore(bad), Call.restoreFile(bad, 3), Call.restoreFile(bad, 16),
                Call.pin(bad, 1), Call.pin(bad, 0), Call.forget(bad)));
        }
        return calls;
    }

    private static void refusedHere(State state, int want, Call... calls) {
        List<String> before = state.whole();
        for (Call call : calls) {
            isRefused(state, call, want, before);
        }
    }

    private static void isRefused(State state, Call call, int want, List<String> before) {
        Due.is(call.words() + " on " + state.words(), call.on(state.made()), want);
        State after = state.then(call);
        Due.same(after.words(), after.whole(), before);
    }

    private static void orderOfTests() {
        SyntheticChain x = State.threePoints().made();
        for (int bad : State.BAD_FILES) {
            Due.is("rename of a file not good to itself", x.rename(bad, bad), -1);
            Due.is("rename of an absent file to one not good", x.rename(5, bad), -1);
            Due.is("restoreFile, neither good", x.restoreFile(3, bad), -1);
            Due.is("there, neither good", x.there(3, bad), -1);
            Due.is("there, the file not good", x.there(2, bad), -2);
        }
        Due.is("rename of an absent file to itself", x.rename(5, 5), -2);
        SyntheticChain late = State.onTheLastDay().made();
        Due.is("advance(61) on the last day", late.advance(61), -1);
        Due.is("advance(60) on the last day", late.advance(60), -2);
        SyntheticChain full = State.fullOfPoints().made();
        Due.is("take(3) at 14 points", full.take(3), -1);
        Due.is("take(-1) at 14 points", full.take(-1), -1);
        Due.is("take(2) at 14 points", full.take(2), -2);
    }

    private static void goodFiles() {
        for (int f = 0; f < 16; f++) {
            SyntheticChain x = State.threePoints().made();
            for (Call call : callsOnFile(f)) {
                Due.is(call.words() + " is not refused", Math.min(call.on(x), 0), 0);
            }
        }
        for (int bad : State.BAD_FILES) {
            SyntheticChain x = State.threePoints().made();
            for (Call call : callsOnFile(bad)) {
                boolean hasPoint = call.words().startsWith("restoreFile") || call.words().startsWith("there");
                Due.is(call.words(), call.on(x), hasPoint ? -2 : -1);
            }
            Due.is("content(1, " + bad + ")", x.content(1, bad), 0);
            Due.is("live(" + bad + ")", x.live(bad), 0);
        }
    }

    private static List<Call> callsOnFile(int f) {
        int other = f == 3 ? 4 : 3;
        return List.of(Call.put(f, 1), Call.rename(f, other), Call.rename(other, f), Call.delete(f),
            Call.rewrite(f, 1, 1), Call.restoreFile(1, f), Call.there(1, f), Call.liveThere(f), Call.versions(f));
    }

    private static void goodPoints() {
        SyntheticChain x = new SyntheticChain();
        arePositions(x, 0);
        for (int p = 0; p < 14; p++) {
            SyntheticChain filled = new SyntheticChain();
            for (int q = 0; q <= p; q++) {
                filled.take(q % 3);
            }
            arePositions(filled, p + 1);
        }
        arePositions(State.emptiedAgain().made(), 0);
        arePositions(State.fullOfPoints().then(Call.forget(13)).made(), 13);
        arePositions(State.fullOfPoints().then(Call.forget(0)).then(Call.forget(0)).made(), 12);
        arePositions(State.fullOfPoints().then(Call.prune(0)).made(), 1);
    }

    /** Positions below points are good, and no others. */
    private static void arePositions(SyntheticChain x, int points) {
        if (points > 0) {
            isPositionGood(x, 0);
            isPositionGood(x, points - 1);
        }
        isPositionBad(x, points);
        for (int bad : NEVER_POINTS) {
            isPositionBad(x, bad);
        }
    }

    private static void isPositionGood(SyntheticChain x, int p) {
        Call[] calls = {Call.restore(p), Call.restoreFile(p, 0), Call.pin(p, 0), Call.dayOf(p), Call.pinned(p),
            Call.there(p, 0), Call.differing(p, p), Call.changedSince(p)};
        for (Call call : calls) {
            Due.is(call.words() + " is not refused", Math.min(call.on(x), 0), 0);
        }
    }

    private static void isPositionBad(SyntheticChain x, int p) {
        Call[] calls = {Call.restore(p), Call.restoreFile(p, 0), Call.pin(p, 1), Call.forget(p), Call.dayOf(p),
            Call.pinned(p), Call.there(p, 0), Call.differing(p, p), Call.differing(p, 0), Call.differing(0, p),
            Call.changedSince(p)};
        for (Call call : calls) {
            Due.is(call.words(), call.on(x), -1);
        }
        Due.is("content(" + p + ", 0)", x.content(p, 0), 0);
        Due.is("sum(" + p + ")", x.sum(p), 0);
    }
}
