import java.util.ArrayList;
import java.util.HashMap;
import java.util.HashSet;
import java.util.List;
import java.util.Map;
import java.util.Objects;
import java.util.Set;

/** The document's words over maps and lists, held in another way than the class holds them. */
final class Model {
    private static final class Point {
        final Map<Integer, Integer> files;
        final int day;
        boolean pinned = false;

        Point(Map<Integer, Integer> files, int day) {
            this.files = new HashMap<>(files);
            this.day = day;
        }
    }

    private final Map<Integer, Integer> live = new HashMap<>();
    private final List<Point> points = new ArrayList<>();
    private int today = 0;

    private static boolean badFile(int f) {
        return f < 0 || f > 15;
    }

    private boolean badPoint(int p) {
        return p < 0 || p > points.size() - 1;
    }

    private static int distance(Map<Integer, Integer> a, Map<Integer, Integer> b) {
        Set<Integer> names = new HashSet<>(a.keySet());
        names.addAll(b.keySet());
        names.removeIf(f -> Objects.equals(a.get(f), b.get(f)));
        return names.size();
    }

    int put(int f, int content) {
        if (badFile(f)) return -1;
        return live.put(f, content) == null ? 0 : 1;
    }

    int delete(int f) {
        if (badFile(f)) return -1;
        return live.remove(f) == null ? 0 : 1;
    }

    int rename(int from, int to) {
        if (badFile(from) || badFile(to)) return -1;
        if (from == to) return -2;
        if (!live.containsKey(from)) return -3;
        live.put(to, live.remove(from));
        return 0;
    }

    int rewrite(int first, int content, int step) {
        if (badFile(first)) return -1;
        int count = 0;
        for (Map.Entry<Integer, Integer> file : live.entrySet()) {
            if (file.getKey() >= first) {
                file.setValue((int) (content + (long) file.getKey() * step));
                count++;
            }
        }
        return count;
    }

    int advance(int days) {
        if (days < 1 || days > 60) return -1;
        if (today + days > 5000) return -2;
        return today += days;
    }

    int take(int way) {
        if (way < 0 || way > 2) return -1;
        if (points.size() == 14) return -2;
        points.add(new Point(live, today));
        return points.size() - 1;
    }

    int restore(int p) {
        if (badPoint(p)) return -1;
        int changed = changedSince(p);
        live.clear();
        live.putAll(points.get(p).files);
        return changed;
    }

    int restoreFile(int p, int f) {
        if (badPoint(p)) return -1;
        if (badFile(f)) return -2;
        Integer due = points.get(p).files.get(f);
        Integer before = due == null ? live.remove(f) : live.put(f, due);
        return Objects.equals(due, before) ? 0 : 1;
    }

    int pin(int p, int flag) {
        int before = pinned(p);
        if (before >= 0) points.get(p).pinned = flag != 0;
        return before;
    }

    int forget(int p) {
        if (badPoint(p)) return -1;
        if (points.get(p).pinned) return -2;
        points.remove(p);
        return points.size();
    }

    int prune(int plan) {
        if (plan < 0 || plan > 999) return -1;
        Set<Point> kept = new HashSet<>();
        kept.addAll(lastHeads(1, plan / 100));
        kept.addAll(lastHeads(7, plan % 100 / 10));
        kept.addAll(lastHeads(28, plan % 10));
        if (!points.isEmpty()) kept.add(points.get(points.size() - 1));
        int before = points.size();
        points.removeIf(point -> !point.pinned && !kept.contains(point));
        return before - points.size();
    }

    private List<Point> lastHeads(int length, int most) {
        Map<Integer, Point> lastOfPeriod = new HashMap<>();
        for (Point point : points) lastOfPeriod.put(point.day / length, point);
        List<Point> heads = new ArrayList<>(points);
        heads.retainAll(new HashSet<>(lastOfPeriod.values()));
        return heads.subList(Math.max(0, heads.size() - most), heads.size());
    }

    int points() {
        return points.size();
    }

    int dayOf(int p) {
        return badPoint(p) ? -1 : points.get(p).day;
    }

    int pinned(int p) {
        return badPoint(p) ? -1 : points.get(p).pinned ? 1 : 0;
    }

    int there(int p, int f) {
        if (badPoint(p)) return -1;
        if (badFile(f)) return -2;
        return points.get(p).files.containsKey(f) ? 1 : 0;
    }

    int content(int p, int f) {
        return badPoint(p) ? 0 : points.get(p).files.getOrDefault(f, 0);
    }

    int liveThere(int f) {
        return badFile(f) ? -1 : live.containsKey(f) ? 1 : 0;
    }

    int live(int f) {
        return live.getOrDefault(f, 0);
    }

    int differing(int p, int q) {
        if (badPoint(p) || badPoint(q)) return -1;
        return distance(points.get(p).files, points.get(q).files);
    }

    int changedSince(int p) {
        return badPoint(p) ? -1 : distance(points.get(p).files, live);
    }

    int versions(int f) {
        if (badFile(f)) return -1;
        int count = 0;
        for (int p = 1; p < points.size(); p++) {
            if (!Objects.equals(points.get(p).files.get(f), points.get(p - 1).files.get(f))) count++;
        }
        return count;
    }

    int sum(int p) {
        if (badPoint(p)) return 0;
        long total = 0;
        for (int content : points.get(p).files.values()) total += content;
        return (int) total;
    }
}
