import java.util.function.ToIntFunction;

/** A call in words and as code, so that one test can go through many calls. */
record Call(String words, ToIntFunction<SyntheticChain> code) {
    int on(SyntheticChain x) {
        return code.applyAsInt(x);
    }

    static Call put(int f, int content) {
        return new Call("put(" + f + ", " + content + ")", x -> x.put(f, content));
    }

    static Call delete(int f) {
        return new Call("delete(" + f + ")", x -> x.delete(f));
    }

    static Call rename(int from, int to) {
        return new Call("rename(" + from + ", " + to + ")", x -> x.rename(from, to));
    }

    static Call rewrite(int first, int content, int step) {
        return new Call("rewrite(" + first + ", " + content + ", " + step + ")", x -> x.rewrite(first, content, step));
    }

    static Call advance(int days) {
        return new Call("advance(" + days + ")", x -> x.advance(days));
    }

    static Call take(int way) {
        return new Call("take(" + way + ")", x -> x.take(way));
    }

    static Call restore(int p) {
        return new Call("restore(" + p + ")", x -> x.restore(p));
    }

    static Call restoreFile(int p, int f) {
        return new Call("restoreFile(" + p + ", " + f + ")", x -> x.restoreFile(p, f));
    }

    static Call pin(int p, int flag) {
        return new Call("pin(" + p + ", " + flag + ")", x -> x.pin(p, flag));
    }

    static Call forget(int p) {
        return new Call("forget(" + p + ")", x -> x.forget(p));
    }

    static Call prune(int plan) {
        return new Call("prune(" + plan + ")", x -> x.prune(plan));
    }

    static Call points() {
        return new Call("points()", x -> x.points());
    }

    static Call dayOf(int p) {
        return new Call("dayOf(" + p + ")", x -> x.dayOf(p));
    }

    static Call pinned(int p) {
        return new Call("pinned(" + p + ")", x -> x.pinned(p));
    }

    static Call there(int p, int f) {
        return new Call("there(" + p + ", " + f + ")", x -> x.there(p, f));
    }

    static Call content(int p, int f) {
        return new Call("content(" + p + ", " + f + ")", x -> x.content(p, f));
    }

    static Call liveThere(int f) {
        return new Call("liveThere(" + f + ")", x -> x.liveThere(f));
    }

    static Call live(int f) {
        return new Call("live(" + f + ")", x -> x.live(f));
    }

    static Call differing(int p, int q) {
        return new Call("differing(" + p + ", " + q + ")", x -> x.differing(p, q));
    }

    static Call changedSince(int p) {
        return new Call("changedSince(" + p + ")", x -> x.changedSince(p));
    }

    static Call versions(int f) {
        return new Call("versions(" + f + ")", x -> x.versions(f));
    }

    static Call sum(int p) {
        return new Call("sum(" + p + ")", x -> x.sum(p));
    }
}
