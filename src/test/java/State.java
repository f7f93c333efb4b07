import java.util.ArrayList;
import java.util.List;
import java.util.function.Consumer;

/** A state in words, with the calls that bring a new object into it. */
record State(String words, Consumer<SyntheticChain> calls) {
    static final int[] BAD_FILES = {-1, 16, 17, -16, 256, Integer.MIN_VALUE, Integer.MAX_VALUE};

    SyntheticChain made() {
        SyntheticChain x = new SyntheticChain();
        calls.accept(x);
        return x;
    }

    State then(Call call) {
        return new State(words + ", then " + call.words(), calls.andThen(call::on));
    }

    /** Every answer of the state, and its day. A new object is made for each part, to stay within 512 calls. */
    List<String> whole() {
        List<String> answers = new ArrayList<>();
        for (int p = 0; p < 14; p++) {
            ask(made(), answers, aboutPoint(p));
        }
        ask(made(), answers, aboutTheRest());
        return answers;
    }

    private static void ask(SyntheticChain x, List<String> answers, List<Call> calls) {
        for (Call call : calls) {
            answers.add(call.words() + " answered " + call.on(x));
        }
    }

    private static List<Call> aboutPoint(int p) {
        List<Call> calls = new ArrayList<>(List.of(Call.dayOf(p), Call.pinned(p), Call.sum(p), Call.changedSince(p)));
        for (int f = 0; f < 16; f++) {
            calls.add(Call.there(p, f));
            calls.add(Call.content(p, f));
        }
        for (int q = 0; q < 14; q++) {
            calls.add(Call.differing(p, q));
        }
        return calls;
    }

    private static List<Call> aboutTheRest() {
        List<Call> calls = new ArrayList<>(List.of(Call.points()));
        for (int f = 0; f < 16; f++) {
            calls.add(Call.liveThere(f));
            calls.add(Call.live(f));
            calls.add(Call.versions(f));
        }
        // No question tells the day, but the answer of advance does.
        calls.add(Call.advance(1));
        return calls;
    }

    static State ofNew() {
        return new State("a new object", x -> { });
    }

    /** All 16 files are there, file f with content 100 + f; no points. */
    static State allThere() {
        return new State("all files there", State::putAll);
    }

    private static void putAll(SyntheticChain x) {
        for (int f = 0; f < 16; f++) {
            x.put(f, 100 + f);
        }
    }

    /** Points: day 0 {0:10}, day 2 {0:10, 15:0}, day 5 {15:7}; live is then {1:1, 15:7}. */
    static State threePoints() {
        return new State("three points", x -> {
            x.put(0, 10);
            x.take(0);
            x.advance(2);
            x.put(15, 0);
            x.take(1);
            x.advance(3);
            x.delete(0);
            x.put(15, 7);
            x.take(2);
            x.put(1, 1);
        });
    }

    /** 14 points; point p, of day p + 1, holds the files 0 .. p, file f with content f + 1. */
    static State fullOfPoints() {
        return new State("14 points", x -> {
            for (int p = 0; p < 14; p++) {
                x.put(p, p + 1);
                x.advance(1);
                x.take(p % 3);
            }
        });
    }

    /** Today is the last day, 5000; two points, of the days 4980 and 5000. */
    static State onTheLastDay() {
        return new State("the last day", x -> {
            x.put(3, -3);
            for (int i = 0; i < 83; i++) {
                x.advance(60);
            }
            x.take(1);
            x.put(4, Integer.MIN_VALUE);
            x.advance(20);
            x.take(2);
        });
    }

    /** Files and points were there, and none is left. */
    static State emptiedAgain() {
        return new State("emptied again", x -> {
            putAll(x);
            x.take(0);
            x.take(1);
            x.pin(0, 1);
            x.pin(0, 0);
            for (int f = 0; f < 16; f++) {
                x.delete(f);
            }
            x.forget(1);
            x.forget(0);
        });
    }
}
