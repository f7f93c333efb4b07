/** Backups of a small set of files; ../shared/DOC.md holds the promises that the methods keep. */
public final class SyntheticChain {
    private static final int FILES = 16;
    private static final int MOST_POINTS = 14;
    private static final int LAST_DAY = 5000;
    private static final int MOST_DAYS_AT_ONCE = 60;
    private static final int LAST_WAY = 2;
    private static final int LAST_PLAN = 999;
    private static final int DAYS_IN_WEEK = 7;
    private static final int DAYS_IN_MONTH = 28;

    private static final int BY_DAY = 0;
    private static final int BY_WEEK = 1;
    private static final int BY_MONTH = 2;

    // The live set is one more row behind the points' rows, so that the same few
    // methods copy and compare points and the live set alike.
    private static final int LIVE_ROW = MOST_POINTS;
    private static final int CELLS = (MOST_POINTS + 1) * FILES;

    // Every point holds a full copy, whatever its way of storing: so taking one out
    // can't touch what the others hold. An absent file's content is always 0.
    private final boolean[] cellThere = new boolean[CELLS];
    private final int[] cellContent = new int[CELLS];

    private final int[] pointDay = new int[MOST_POINTS];
    private final boolean[] pointPinned = new boolean[MOST_POINTS];
    private final boolean[] pointKept = new boolean[MOST_POINTS];
    private int pointCount;
    private int today;

    public SyntheticChain() {
        pointCount = 0;
        today = 0;
    }

    public int put(int f, int content) {
        if (!isFile(f)) {
            return -1;
        }
        int before = thereAsInt(LIVE_ROW, f);
        setLive(f, true, content);
        return before;
    }

    public int delete(int f) {
        if (!isFile(f)) {
            return -1;
        }
        int before = thereAsInt(LIVE_ROW, f);
        setLive(f, false, 0);
        return before;
    }

    public int rename(int from, int to) {
        if (!isFile(from) || !isFile(to)) {
            return -1;
        }
        if (from == to) {
            return -2;
        }
        int source = cell(LIVE_ROW, from);
        if (!cellThere[source]) {
            return -3;
        }
        setLive(to, true, cellContent[source]);
        setLive(from, false, 0);
        return 0;
    }

    public int rewrite(int first, int content, int step) {
        if (!isFile(first)) {
            return -1;
        }
        int rewritten = 0;
        for (int f = first; f < FILES; f++) {
            int at = cell(LIVE_ROW, f);
            if (cellThere[at]) {
                cellContent[at] = content + f * step;
                rewritten++;
            }
        }
        return rewritten;
    }

    public int advance(int days) {
        if (days < 1 || days > MOST_DAYS_AT_ONCE) {
            return -1;
        }
        if (today + days > LAST_DAY) {
            return -2;
        }
        today += days;
        return today;
    }

    public int take(int way) {
        if (way < 0 || way > LAST_WAY) {
            return -1;
        }
        if (pointCount >= MOST_POINTS) {
            return -2;
        }
        int p = pointCount;
        copyRow(LIVE_ROW, p);
        pointDay[p] = today;
        pointPinned[p] = false;
        pointCount++;
        return p;
    }

    public int restore(int p) {
        if (!isPoint(p)) {
            return -1;
        }
        int changed = countDiffering(p, LIVE_ROW);
        copyRow(p, LIVE_ROW);
        return changed;
    }

    public int restoreFile(int p, int f) {
        if (!isPoint(p)) {
            return -1;
        }
        if (!isFile(f)) {
            return -2;
        }
        boolean changed = differs(p, LIVE_ROW, f);
        copyCell(p, LIVE_ROW, f);
        return changed ? 1 : 0;
    }

    public int pin(int p, int flag) {
        if (!isPoint(p)) {
            return -1;
        }
        boolean before = pointPinned[p];
        pointPinned[p] = flag != 0;
        return before ? 1 : 0;
    }

    public int forget(int p) {
        if (!isPoint(p)) {
            return -1;
        }
        if (pointPinned[p]) {
            return -2;
        }
        for (int q = p + 1; q < pointCount; q++) {
            movePoint(q, q - 1);
        }
        pointCount--;
        return pointCount;
    }

    public int prune(int plan) {
        if (plan < 0 || plan > LAST_PLAN) {
            return -1;
        }
        keepOnlyPinnedAndLast();
        keepHeads(BY_DAY, plan / 100);
        keepHeads(BY_WEEK, plan / 10 % 10);
        keepHeads(BY_MONTH, plan % 10);
        return takeOutUnkept();
    }

    public int points() {
        return pointCount;
    }

    public int dayOf(int p) {
        return isPoint(p) ? pointDay[p] : -1;
    }

    public int pinned(int p) {
        if (!isPoint(p)) {
            return -1;
        }
        return pointPinned[p] ? 1 : 0;
    }

    public int there(int p, int f) {
        if (!isPoint(p)) {
            return -1;
        }
        if (!isFile(f)) {
            return -2;
        }
        return thereAsInt(p, f);
    }

    public int content(int p, int f) {
        if (!isPoint(p) || !isFile(f)) {
            return 0;
        }
        return cellContent[cell(p, f)];
    }

    public int liveThere(int f) {
        return isFile(f) ? thereAsInt(LIVE_ROW, f) : -1;
    }

    public int live(int f) {
        return isFile(f) ? cellContent[cell(LIVE_ROW, f)] : 0;
    }

    public int differing(int p, int q) {
        if (!isPoint(p) || !isPoint(q)) {
            return -1;
        }
        return countDiffering(p, q);
    }

    public int changedSince(int p) {
        return isPoint(p) ? countDiffering(p, LIVE_ROW) : -1;
    }

    public int versions(int f) {
        if (!isFile(f)) {
            return -1;
        }
        int count = 0;
        for (int p = 1; p < pointCount; p++) {
            if (differs(p - 1, p, f)) {
                count++;
            }
        }
        return count;
    }

    public int sum(int p) {
        if (!isPoint(p)) {
            return 0;
        }
        int total = 0;
        for (int f = 0; f < FILES; f++) {
            total += cellContent[cell(p, f)];
        }
        return total;
    }

    private boolean isFile(int f) {
        return f >= 0 && f < FILES;
    }

    private boolean isPoint(int p) {
        return p >= 0 && p < pointCount;
    }

    private int cell(int row, int f) {
        return row * FILES + f;
    }

    private int thereAsInt(int row, int f) {
        return cellThere[cell(row, f)] ? 1 : 0;
    }

    private void setLive(int f, boolean isThere, int content) {
        int at = cell(LIVE_ROW, f);
        cellThere[at] = isThere;
        cellContent[at] = content;
    }

    private boolean differs(int rowA, int rowB, int f) {
        int a = cell(rowA, f);
        int b = cell(rowB, f);
        return cellThere[a] != cellThere[b] || cellContent[a] != cellContent[b];
    }

    private int countDiffering(int rowA, int rowB) {
        int count = 0;
        for (int f = 0; f < FILES; f++) {
            if (differs(rowA, rowB, f)) {
                count++;
            }
        }
        return count;
    }

    private void copyCell(int fromRow, int toRow, int f) {
        int source = cell(fromRow, f);
        int target = cell(toRow, f);
        cellThere[target] = cellThere[source];
        cellContent[target] = cellContent[source];
    }

    private void copyRow(int fromRow, int toRow) {
        for (int f = 0; f < FILES; f++) {
            copyCell(fromRow, toRow, f);
        }
    }

    private void movePoint(int from, int to) {
        copyRow(from, to);
        pointDay[to] = pointDay[from];
        pointPinned[to] = pointPinned[from];
    }

    private void keepOnlyPinnedAndLast() {
        for (int p = 0; p < pointCount; p++) {
            pointKept[p] = pointPinned[p] || p == pointCount - 1;
        }
    }

    private void keepHeads(int kind, int most) {
        int found = 0;
        for (int p = pointCount - 1; p >= 0 && found < most; p--) {
            if (isHead(p, kind)) {
                pointKept[p] = true;
                found++;
            }
        }
    }

    // Days never go back from one point to the next, so a look at the next point is enough.
    private boolean isHead(int p, int kind) {
        if (p == pointCount - 1) {
            return true;
        }
        return periodOf(p, kind) != periodOf(p + 1, kind);
    }

    // Divides by constants alone, so that no divisor can be 0.
    private int periodOf(int p, int kind) {
        if (kind == BY_WEEK) {
            return pointDay[p] / DAYS_IN_WEEK;
        }
        if (kind == BY_MONTH) {
            return pointDay[p] / DAYS_IN_MONTH;
        }
        return pointDay[p];
    }

    private int takeOutUnkept() {
        int left = 0;
        for (int p = 0; p < pointCount; p++) {
            if (pointKept[p]) {
                movePoint(p, left);
                left++;
            }
        }
        int takenOut = pointCount - left;
        pointCount = left;
        return takenOut;
    }
}
