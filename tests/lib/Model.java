import java.util.ArrayList;
import java.util.Arrays;
import java.util.LinkedHashMap;
import java.util.List;
import java.util.Map;
import java.util.TreeMap;

/**
 * The document once more, written as plainly as can be and in another way than the class:
 * a heap is found by asking every tick of every cell, nothing is kept that can be asked anew.
 */
final class Model {
    static final int BAD = -1, FULL = -2, FINDING = -3, STATE = -4, NONE = -9;

    private record Pick(int station, int tick, int strength, int kind, int quake) {}
    private record Told(int town, int quake, int level) {}

    private int q = 100, e = 2, now, asked, finding;
    private final int[] findings = new int[6];
    private final int[] needs = {0, 4, 8, 12, 16, 61};
    private final List<Integer> stations = new ArrayList<>();
    private final List<Boolean> deafs = new ArrayList<>();
    private final List<int[]> rows = new ArrayList<>();
    private final List<Integer> towns = new ArrayList<>();
    private final List<Pick> picks = new ArrayList<>();
    private int quakes;
    /** What was told, and whether it was taken back. */
    private final Map<Told, Boolean> told = new LinkedHashMap<>();
    private final List<int[]> messages = new ArrayList<>();

    private static boolean in(long n, long least, long most) {
        return least <= n && n <= most;
    }

    private boolean isStation(int s) { return in(s, 0, stations.size() - 1); }
    private boolean isCell(int c) { return in(c, 0, 143); }
    private boolean isTown(int t) { return in(t, 0, towns.size() - 1); }
    private boolean isQuake(int k) { return in(k, 0, quakes - 1); }

    private int find(int f) {
        finding = f;
        findings[f]++;
        return FINDING;
    }

    private int way(int a, int b) {
        int dx = a % 12 - b % 12, dy = a / 12 - b / 12;
        int t = 0;
        while ((t + 1) * (t + 1) <= q * (dx * dx + dy * dy)) t++;
        return t;
    }

    private static int bits(long n) {
        return Long.toBinaryString(n).length();
    }

    private List<Pick> picksOf(int quake) {
        return picks.stream().filter(p -> p.quake == quake).toList();
    }

    private boolean inHeap(List<Pick> joined, int cell, int t) {
        for (Pick p : joined) {
            if (Math.abs(t + way(cell, stations.get(p.station)) - p.tick) > e) return false;
        }
        for (int s = 0; s < stations.size(); s++) {
            int number = s;
            boolean heard = joined.stream().anyMatch(p -> p.station == number);
            if (!heard && !deafs.get(s) && t + way(cell, stations.get(s)) + e < now) return false;
        }
        return true;
    }

    /** By cell all its ticks: none lies farther than a way and the error from a pick. */
    private TreeMap<Integer, List<Integer>> heap(List<Pick> joined) {
        TreeMap<Integer, List<Integer>> all = new TreeMap<>();
        Pick any = joined.get(0);
        for (int cell = 0; cell < 144; cell++) {
            int middle = any.tick - way(cell, stations.get(any.station));
            List<Integer> ticks = new ArrayList<>();
            for (int t = middle - e - 1; t <= middle + e + 1; t++) {
                if (inHeap(joined, cell, t)) ticks.add(t);
            }
            if (!ticks.isEmpty()) all.put(cell, ticks);
        }
        return all;
    }

    private TreeMap<Integer, List<Integer>> heap(int quake) {
        return heap(picksOf(quake));
    }

    int rule(int newQ, int newE) {
        if (!in(newQ, 1, 400) || !in(newE, 0, 50)) return BAD;
        if (!picks.isEmpty()) return STATE;
        q = newQ;
        e = newE;
        return 1;
    }

    int station(int cell) {
        if (!isCell(cell)) return BAD;
        if (stations.size() == 10) return FULL;
        if (!picks.isEmpty()) return STATE;
        stations.add(cell);
        deafs.add(false);
        rows.add(null);
        return stations.size() - 1;
    }

    int town(int cell) {
        if (!isCell(cell)) return BAD;
        if (towns.size() == 6) return FULL;
        towns.add(cell);
        return towns.size() - 1;
    }

    int deaf(int s, boolean is) {
        if (!isStation(s)) return BAD;
        return deafs.set(s, is) ? 1 : 0;
    }

    int travel(int a, int b) {
        return isCell(a) && isCell(b) ? way(a, b) : BAD;
    }

    int later(int n) {
        if (n < 0 || (long) now + n > 100000) return BAD;
        return now += n;
    }

    int row(int s, int n) {
        if (!isStation(s) || n > 30) return BAD;
        if (n < 0) return find(5);
        rows.set(s, new int[n]);
        return n;
    }

    int lay(int s, int i, int v) {
        if (!isStation(s) || !in(v, -100000, 100000)) return BAD;
        int[] row = rows.get(s);
        if (row == null) return find(1);
        if (!in(i, 0, row.length - 1)) return find(2);
        asked = row[i];
        row[i] = v;
        return 1;
    }

    int tear(int s) {
        if (!isStation(s)) return BAD;
        return rows.set(s, null) == null ? find(1) : 1;
    }

    int copy(int s, int i, int other, int j, int n) {
        if (!isStation(s) || !isStation(other)) return BAD;
        if (n < 0) return find(5);
        int[] from = rows.get(s), to = rows.get(other);
        if (from == null || to == null) return find(1);
        if (i < 0 || j < 0 || (long) i + n > from.length || (long) j + n > to.length) return find(2);
        int[] ahead = from.clone();
        for (int k = 0; k < n; k++) to[j + k] = ahead[i + k];
        return 1;
    }

    int mean(int s) {
        if (!isStation(s)) return BAD;
        int[] row = rows.get(s);
        if (row == null) return find(1);
        if (row.length == 0) return find(4);
        return Arrays.stream(row).map(Math::abs).sum() / row.length;
    }

    int first(int s, int sw, int lw, int a, int b) {
        if (!isStation(s) || !in(sw, 1, 10) || !in(lw, 1, 10) || !in(a, 1, 1000) || !in(b, 1, 1000)) return BAD;
        int[] row = rows.get(s);
        if (row == null) return find(1);
        for (int i = 0; i < row.length; i++) {
            if (i < lw || row.length - i < sw) continue;
            long on = 0, ahead = 0;
            for (int k = 0; k < sw; k++) on += Math.abs(row[i + k]);
            for (int k = 1; k <= lw; k++) ahead += Math.abs(row[i - k]);
            if (on * lw * b > ahead * sw * a) return i;
        }
        return NONE;
    }

    int pick(int s, int tick, int strength) {
        if (!isStation(s) || !in(tick, 0, now) || !in(strength, 1, 1000000)) return BAD;
        if (picks.size() == 60) return FULL;
        for (int k = 0; k < quakes; k++) {
            List<Pick> with = new ArrayList<>(picksOf(k));
            if (with.stream().anyMatch(p -> p.station == s) || heap(with).isEmpty()) continue;
            with.add(new Pick(s, tick, strength, 1, k));
            if (heap(with).isEmpty()) continue;
            picks.add(new Pick(s, tick, strength, 1, k));
            return k;
        }
        if (quakes < 5) {
            picks.add(new Pick(s, tick, strength, 2, quakes));
            return 10 + quakes++;
        }
        picks.add(new Pick(s, tick, strength, 3, NONE));
        return NONE;
    }

    int told(int pick, int what) {
        if (!in(pick, 0, picks.size() - 1) || !in(what, 0, 4)) return BAD;
        Pick p = picks.get(pick);
        return new int[] {p.station, p.tick, p.strength, p.kind, p.quake}[what];
    }

    int mark(int pick, int kind) {
        if (!in(pick, 0, picks.size() - 1) || !in(kind, 0, 3)) return BAD;
        Pick p = picks.get(pick);
        boolean joined = p.kind == 1 || p.kind == 2;
        if (kind == 0) return p.tick;
        if (kind == 1) return joined ? p.quake : find(3);
        if (kind == 2) return p.kind == 2 ? p.quake : find(3);
        return p.kind == 3 ? p.tick : find(3);
    }

    private int[] sizes(int quake) {
        Pick opening = picksOf(quake).get(0);
        return heap(quake).keySet().stream()
            .mapToInt(c -> bits((long) opening.strength * (way(c, stations.get(opening.station)) + 1))).sorted().toArray();
    }

    int quake(int quake, int what) {
        if (!isQuake(quake) || !in(what, 0, 4)) return BAD;
        if (what == 0) return picksOf(quake).size();
        int[] sizes = sizes(quake);
        if (what == 1) return sizes.length;
        if (what == 4) return sizes.length == 0 ? 1 : 0;
        if (sizes.length == 0) return NONE;
        return what == 2 ? sizes[0] : sizes[sizes.length - 1];
    }

    int cell(int quake, int i) {
        if (!isQuake(quake)) return BAD;
        List<Integer> cells = new ArrayList<>(heap(quake).keySet());
        return in(i, 0, cells.size() - 1) ? cells.get(i) : NONE;
    }

    int time(int quake, int cell, boolean last) {
        if (!isQuake(quake) || !isCell(cell)) return BAD;
        List<Integer> ticks = heap(quake).get(cell);
        if (ticks == null) return NONE;
        asked = ticks.get(last ? ticks.size() - 1 : 0);
        return 1;
    }

    int holds(int quake, int cell, int t) {
        if (!isQuake(quake) || !isCell(cell)) return BAD;
        List<Integer> ticks = heap(quake).get(cell);
        return ticks != null && ticks.contains(t) ? 1 : 0;
    }

    int felt(int town, int quake) {
        if (!isTown(town) || !isQuake(quake)) return BAD;
        int[] sizes = sizes(quake);
        if (sizes.length == 0) return NONE;
        int loss = heap(quake).keySet().stream().mapToInt(c -> bits(way(c, towns.get(town)) + 1)).max().getAsInt();
        return Math.max(0, sizes[0] - loss);
    }

    int level(int k, int f) {
        if (!in(k, 1, 4) || !in(f, needs[k - 1] + 1, needs[k + 1] - 1)) return BAD;
        int was = needs[k];
        needs[k] = f;
        return was;
    }

    int warn() {
        int n = 0;
        for (int quake = 0; quake < quakes; quake++) {
            for (int town = 0; town < towns.size(); town++) {
                int felt = felt(town, quake);
                for (int k = 1; k <= 4; k++) {
                    Told what = new Told(town, quake, k);
                    if (felt == NONE && Boolean.FALSE.equals(told.get(what))) {
                        told.put(what, true);
                        messages.add(new int[] {town, quake, -k, now});
                        n++;
                    } else if (felt >= needs[k] && !told.containsKey(what)) {
                        told.put(what, false);
                        messages.add(new int[] {town, quake, k, now});
                        n++;
                    }
                }
            }
        }
        return n;
    }

    int drill(int town, int level) {
        if (!isTown(town) || !in(level, 1, 4)) return BAD;
        if (messages.size() >= 400) return FULL;
        messages.add(new int[] {town, NONE, level, now});
        return messages.size();
    }

    int message(int i, int what) {
        if (!in(what, 0, 3)) return BAD;
        return in(i, 0, Math.min(400, messages.size()) - 1) ? messages.get(i)[what] : NONE;
    }

    int alarm(int town, int quake) {
        if (!isTown(town) || !isQuake(quake)) return BAD;
        return told.entrySet().stream().filter(t -> !t.getValue()).map(Map.Entry::getKey)
            .filter(t -> t.town == town && t.quake == quake).mapToInt(Told::level).max().orElse(0);
    }

    private List<Integer> arrivals(int town, int quake) {
        List<Integer> all = new ArrayList<>();
        heap(quake).forEach((c, ticks) -> ticks.forEach(t -> all.add(t + way(c, towns.get(town)))));
        return all;
    }

    int late(int town, int quake) {
        if (!isTown(town) || !isQuake(quake)) return BAD;
        List<Integer> arrivals = arrivals(town, quake);
        if (arrivals.isEmpty()) return NONE;
        if (arrivals.stream().allMatch(a -> a <= now)) return 1;
        return arrivals.stream().noneMatch(a -> a <= now) ? 2 : 0;
    }

    int left(int town, int quake) {
        if (!isTown(town) || !isQuake(quake)) return BAD;
        return arrivals(town, quake).stream().mapToInt(a -> Math.max(0, a - now)).min().orElse(NONE);
    }

    int asked() {
        return asked;
    }

    int count(int what) {
        if (!in(what, 0, 5)) return BAD;
        return new int[] {stations.size(), towns.size(), picks.size(), quakes, messages.size(), now}[what];
    }

    int finding() {
        return finding;
    }

    int findings(int f) {
        return in(f, 1, 5) ? findings[f] : BAD;
    }

    long digest() {
        List<Integer> all = new ArrayList<>(List.of(now));
        for (int[] row : rows) {
            all.add(row == null ? -1 : row.length);
            if (row != null) Arrays.stream(row).forEach(all::add);
        }
        for (int i = 0; i < picks.size(); i++) {
            for (int what = 0; what <= 4; what++) all.add(told(i, what));
        }
        for (int i = 0; i < quakes; i++) {
            for (int what = 0; what <= 4; what++) all.add(quake(i, what));
        }
        for (int i = 0; i < Math.min(400, messages.size()); i++) {
            for (int what = 0; what <= 3; what++) all.add(message(i, what));
        }
        long h = 17;
        for (int v : all) h = 31 * h + v;
        return h;
    }
}
