/** Promises 1 to 6, 18 and 19: the new object, the calls on the live set, and the day. */
public final class LiveSetTest {
    private static final int[] BAD_FILES = {-1, 16, 17, Integer.MIN_VALUE, Integer.MAX_VALUE};

    public static void main(String[] args) {
        newObject();
        put();
        delete();
        rename();
        renameRefused();
        rewrite();
        rewriteWraps();
        advance();
        advanceToTheLastDay();
        liveQuestions();
        objectsAreApart();
        Due.end();
    }

    private static void newObject() {
        SyntheticChain x = new SyntheticChain();
        Due.is("points() of a new object", x.points(), 0);
        for (int f = 0; f < 16; f++) {
            Due.is("liveThere(" + f + ") of a new object", x.liveThere(f), 0);
            Due.is("live(" + f + ") of a new object", x.live(f), 0);
            Due.is("versions(" + f + ") of a new object", x.versions(f), 0);
        }
        Due.is("take(0) of a new object", x.take(0), 0);
        Due.is("dayOf(0) of a new object", x.dayOf(0), 0);
    }

    private static void put() {
        for (int f = 0; f < 16; f++) {
            SyntheticChain x = new SyntheticChain();
            Due.is("put on absent " + f, x.put(f, 5), 0);
            Due.is("live after put", x.live(f), 5);
            Due.is("put again", x.put(f, Integer.MIN_VALUE), 1);
            Due.is("live after second put", x.live(f), Integer.MIN_VALUE);
            Due.is("put of 0", x.put(f, 0), 1);
            Due.is("liveThere with content 0", x.liveThere(f), 1);
            Due.is("put on content 0", x.put(f, Integer.MAX_VALUE), 1);
            Due.is("live after last put", x.live(f), Integer.MAX_VALUE);
            Due.is("files there", filesThere(x), 1);
        }
        SyntheticChain x = new SyntheticChain();
        for (int bad : BAD_FILES) {
            Due.is("put(" + bad + ")", x.put(bad, 7), -1);
        }
        Due.is("files there after refused puts", filesThere(x), 0);
    }

    private static void delete() {
        SyntheticChain x = full();
        Due.is("delete(0)", x.delete(0), 1);
        Due.is("delete(15)", x.delete(15), 1);
        Due.is("delete(15) again", x.delete(15), 0);
        Due.is("liveThere(0)", x.liveThere(0), 0);
        Due.is("live(0)", x.live(0), 0);
        Due.is("liveThere(15)", x.liveThere(15), 0);
        Due.is("live(1)", x.live(1), 101);
        Due.is("put on a deleted file", x.put(0, 3), 0);
        Due.is("files there", filesThere(x), 15);
        for (int bad : BAD_FILES) {
            Due.is("delete(" + bad + ")", x.delete(bad), -1);
        }
        Due.is("files there after refused deletes", filesThere(x), 15);
    }

    private static void rename() {
        SyntheticChain x = new SyntheticChain();
        x.put(0, 10);
        Due.is("rename to an absent file", x.rename(0, 15), 0);
        Due.is("liveThere(0)", x.liveThere(0), 0);
        Due.is("live(0)", x.live(0), 0);
        Due.is("liveThere(15)", x.liveThere(15), 1);
        Due.is("live(15)", x.live(15), 10);
        x.put(4, 44);
        Due.is("rename onto a file that is there", x.rename(15, 4), 0);
        Due.is("live(4)", x.live(4), 10);
        Due.is("files there", filesThere(x), 1);
        x.put(4, 0);
        Due.is("rename of content 0", x.rename(4, 0), 0);
        Due.is("liveThere(0)", x.liveThere(0), 1);
        Due.is("live(0)", x.live(0), 0);
    }

    private static void renameRefused() {
        SyntheticChain x = new SyntheticChain();
        x.put(1, 11);
        x.put(2, 22);
        for (int bad : BAD_FILES) {
            Due.is("rename(" + bad + ", 1)", x.rename(bad, 1), -1);
            Due.is("rename(1, " + bad + ")", x.rename(1, bad), -1);
            Due.is("rename(3, " + bad + ")", x.rename(3, bad), -1);
            Due.is("rename(" + bad + ", itself)", x.rename(bad, bad), -1);
        }
        Due.is("rename(1, 1)", x.rename(1, 1), -2);
        Due.is("rename(3, 3), absent", x.rename(3, 3), -2);
        Due.is("rename(3, 1), absent", x.rename(3, 1), -3);
        Due.is("rename(3, 5), absent", x.rename(3, 5), -3);
        Due.is("live(1)", x.live(1), 11);
        Due.is("live(2)", x.live(2), 22);
        Due.is("files there", filesThere(x), 2);
    }

    private static void rewrite() {
        SyntheticChain x = full();
        x.delete(9);
        Due.is("rewrite(7)", x.rewrite(7, 1000, -3), 8);
        Due.is("live(6)", x.live(6), 106);
        Due.is("live(7)", x.live(7), 1000 - 21);
        Due.is("liveThere(9)", x.liveThere(9), 0);
        Due.is("live(9)", x.live(9), 0);
        Due.is("live(15)", x.live(15), 1000 - 45);
        Due.is("rewrite(15)", x.rewrite(15, 1, 0), 1);
        Due.is("live(14)", x.live(14), 1000 - 42);
        Due.is("live(15)", x.live(15), 1);
        Due.is("rewrite(0)", x.rewrite(0, 2, 0), 15);
        Due.is("rewrite(0) to the same contents", x.rewrite(0, 2, 0), 15);
        Due.is("live(0)", x.live(0), 2);
        for (int bad : BAD_FILES) {
            Due.is("rewrite(" + bad + ")", x.rewrite(bad, 5, 5), -1);
        }
        Due.is("live(0) after refused rewrites", x.live(0), 2);
        Due.is("live(15) after refused rewrites", x.live(15), 2);
        Due.is("rewrite with nothing there", new SyntheticChain().rewrite(0, 1, 1), 0);
    }

    private static void rewriteWraps() {
        SyntheticChain x = full();
        Due.is("rewrite that wraps", x.rewrite(0, Integer.MAX_VALUE, 1), 16);
        Due.is("live(0)", x.live(0), Integer.MAX_VALUE);
        Due.is("live(1)", x.live(1), Integer.MIN_VALUE);
        Due.is("live(15)", x.live(15), Integer.MIN_VALUE + 14);
        Due.is("rewrite whose product wraps", x.rewrite(0, 0, 0x40000001), 16);
        Due.is("live(3)", x.live(3), 0xC0000003);
        Due.is("live(4)", x.live(4), 4);
        Due.is("live(15)", x.live(15), 0xC000000F);
    }

    private static void advance() {
        SyntheticChain x = new SyntheticChain();
        Due.is("advance(1)", x.advance(1), 1);
        Due.is("advance(60)", x.advance(60), 61);
        int[] bad = {0, 61, -1, Integer.MIN_VALUE, Integer.MAX_VALUE};
        for (int days : bad) {
            Due.is("advance(" + days + ")", x.advance(days), -1);
        }
        x.take(0);
        Due.is("dayOf(0)", x.dayOf(0), 61);
    }

    private static void advanceToTheLastDay() {
        SyntheticChain x = new SyntheticChain();
        for (int day = 60; day <= 4980; day += 60) {
            Due.is("advance(60)", x.advance(60), day);
        }
        Due.is("advance past 5000", x.advance(21), -2);
        Due.is("advance(61) near the end", x.advance(61), -1);
        Due.is("advance to 4999", x.advance(19), 4999);
        Due.is("advance(2) from 4999", x.advance(2), -2);
        Due.is("advance to 5000", x.advance(1), 5000);
        Due.is("advance(1) from 5000", x.advance(1), -2);
        Due.is("advance(0) from 5000", x.advance(0), -1);
        x.take(0);
        Due.is("dayOf(0)", x.dayOf(0), 5000);
    }

    private static void liveQuestions() {
        SyntheticChain x = full();
        for (int f = 0; f < 16; f++) {
            Due.is("liveThere(" + f + ")", x.liveThere(f), 1);
            Due.is("live(" + f + ")", x.live(f), 100 + f);
        }
        x.take(0);
        for (int bad : BAD_FILES) {
            Due.is("liveThere(" + bad + ")", x.liveThere(bad), -1);
            Due.is("live(" + bad + ")", x.live(bad), 0);
        }
    }

    private static void objectsAreApart() {
        SyntheticChain x = full();
        x.advance(5);
        x.take(0);
        SyntheticChain y = new SyntheticChain();
        Due.is("points() of another object", y.points(), 0);
        Due.is("files there in another object", filesThere(y), 0);
        Due.is("advance(1) of another object", y.advance(1), 1);
    }

    private static SyntheticChain full() {
        SyntheticChain x = new SyntheticChain();
        for (int f = 0; f < 16; f++) {
            x.put(f, 100 + f);
        }
        return x;
    }

    private static int filesThere(SyntheticChain x) {
        int count = 0;
        for (int f = 0; f < 16; f++) {
            count += x.liveThere(f);
        }
        return count;
    }
}
