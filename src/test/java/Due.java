import java.util.List;

/** Compares answers with the ones that are due; shared by the project's tests. */
final class Due {
    private static int tests = 0;
    private static int asked = 0;
    private static int wrong = 0;
    private static String sentence = "";

    private Due() {
    }

    /** Runs the test of one sentence of the document; where says its heading there. */
    static void test(String where, String words, Runnable test) {
        tests++;
        sentence = where + ", \"" + words + "\": ";
        int before = asked;
        try {
            test.run();
        } catch (RuntimeException | StackOverflowError thrown) {
            isWrong("threw " + thrown);
        }
        // A test that asks nothing can't fail, so it counts as wrong.
        if (asked == before) {
            isWrong("asked nothing");
        }
    }

    static void is(String call, int got, int want) {
        asked++;
        if (got != want) {
            isWrong(call + " answered " + got + ", due is " + want);
        }
    }

    static void same(String after, List<String> got, List<String> want) {
        asked++;
        for (int i = 0; i < want.size(); i++) {
            if (!got.get(i).equals(want.get(i))) {
                isWrong("after " + after + ", " + got.get(i) + ", due is " + want.get(i));
                return;
            }
        }
    }

    private static void isWrong(String what) {
        wrong++;
        System.out.println(sentence + what);
    }

    static void end() {
        System.out.println((tests == 0 ? "" : tests + " tests of sentences, ") + asked + " answers, " + wrong + " not as due");
        if (asked == 0 || wrong != 0) {
            System.exit(1);
        }
    }
}
