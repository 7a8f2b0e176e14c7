import java.util.ArrayList;
import java.util.Arrays;
import java.util.HashMap;
import java.util.List;
import java.util.Map;
import java.util.regex.Matcher;
import java.util.regex.Pattern;

/**
 * The document again in another way: second by second and heap by heap, as slow as it likes.
 * It shares no code with the program, so that a fault would have to be made twice.
 */
final class Slow {
    static final int NONE = -1;
    static final int NEVER = Integer.MAX_VALUE;

    static final class Point { String name; boolean all; }
    static final class Arc { int from, to, delay; }
    static final class Window { int point, lag, how, place; }
    static final class Rule { int hides, cause, unless = NONE; boolean rests; }
    static final class Row { int window, second; Row(int w, int s) { window = w; second = s; } }
    static final class Plant {
        final List<Point> points = new ArrayList<>();
        final List<Arc> arcs = new ArrayList<>();
        final List<Window> windows = new ArrayList<>();
        final List<Rule> rules = new ArrayList<>();
    }

    private String text = "";
    private Plant plant = new Plant();
    private List<Row> rows = new ArrayList<>();
    private int unlike = 0;
    private int till = 300;
    private final Map<Integer, int[]> known = new HashMap<>();

    // ---- the text

    int feed(int a, int b, int c, int d, int e) {
        if (text.length() + 20 > 600) return NONE;
        StringBuilder more = new StringBuilder();
        for (int word : new int[] {a, b, c, d, e})
            for (int shift = 24; shift >= 0; shift -= 8) more.append((char) (word >>> shift & 255));
        text += more;
        return text.length();
    }

    boolean end(int n) {
        if (n < 0 || n > text.length()) return false;
        text = text.substring(0, n);
        return true;
    }

    int fault() {
        return parse(new Plant());
    }

    int plant() {
        Plant fresh = new Plant();
        if (parse(fresh) != NONE) return NONE;
        plant = fresh;
        known.clear();
        for (int w = 0; w < plant.windows.size(); w++) plant.windows.get(w).place = w;
        rows = new ArrayList<>();
        text = "";
        return plant.points.size();
    }

    private static final Pattern TOKEN = Pattern.compile("[a-z]+|[0-9]+|;|[^ \n]", Pattern.DOTALL);
    private static final List<String> KEPT =
        Arrays.asList("point any all from to in window of hide while not".split(" "));

    /** A statement is matched against what its next token may be; the first one that fits none is the fault. */
    private int parse(Plant out) {
        List<String> words = new ArrayList<>();
        List<Integer> places = new ArrayList<>();
        Matcher m = TOKEN.matcher(text);
        while (m.find()) { words.add(m.group()); places.add(m.start()); }
        int i = 0;
        while (i < words.size()) {
            List<String> said = new ArrayList<>();
            while (true) {
                if (i >= words.size()) return text.length();
                if (!mayStand(out, said, words.get(i))) return places.get(i);
                said.add(words.get(i));
                if (words.get(i++).equals(";")) break;
            }
            take(out, said);
        }
        return out.points.isEmpty() ? text.length() : NONE;
    }

    private static boolean mayStand(Plant p, List<String> said, String w) {
        int n = said.size();
        if (n == 0) {
            switch (w) {
                case "point": return p.points.size() < 12;
                case "from": return p.arcs.size() < 24;
                case "window": return p.windows.size() < 12;
                case "hide": return p.rules.size() < 8;
                default: return false;
            }
        }
        switch (said.get(0)) {
            case "point":
                if (n == 1) return w.matches("[a-z]{1,8}") && !KEPT.contains(w) && named(p, w) == NONE;
                if (n == 2) return w.equals("any") || w.equals("all");
                return w.equals(";");
            case "from":
                if (n == 1 || n == 3) return named(p, w) != NONE;
                if (n == 2) return w.equals("to");
                if (n == 4) return w.equals("in");
                if (n == 5) return within(w, 0, 60);
                return w.equals(";");
            case "window":
                if (n == 1) return named(p, w) != NONE;
                if (n == 2) return within(w, 0, 60);
                if (said.contains("of")) {
                    int at = said.indexOf("of");
                    return n == at + 1 ? within(w, 1, at - 2) : w.equals(";");
                }
                if (n == 3) return w.equals(";") || within(w, 0, 60);
                if (n == 4) return w.equals("of") || within(w, 0, 60);
                return w.equals("of");
            default:
                int last = p.windows.size() - 1;
                if (n == 1) return within(w, 0, last);
                if (n == 2) return w.equals("while");
                if (n == 3) return within(w, 0, last) && num(w) != num(said.get(1));
                if (n == 4) return w.equals(";") || w.equals("not");
                if (n == 5) return within(w, 0, last) && num(w) != num(said.get(1)) && num(w) != num(said.get(3));
                return w.equals(";");
        }
    }

    private static void take(Plant p, List<String> said) {
        switch (said.get(0)) {
            case "point": {
                Point x = new Point();
                x.name = said.get(1);
                x.all = said.get(2).equals("all");
                p.points.add(x);
                break;
            }
            case "from": {
                Arc x = new Arc();
                x.from = named(p, said.get(1));
                x.to = named(p, said.get(3));
                x.delay = num(said.get(5));
                p.arcs.add(x);
                break;
            }
            case "window": {
                Window x = new Window();
                x.point = named(p, said.get(1));
                int of = said.indexOf("of");
                int[] lags = said.subList(2, of < 0 ? 3 : of).stream().mapToInt(Slow::num).sorted().toArray();
                x.lag = lags[of < 0 ? 0 : num(said.get(of + 1)) - 1];
                p.windows.add(x);
                break;
            }
            default: {
                Rule x = new Rule();
                x.hides = num(said.get(1));
                x.cause = num(said.get(3));
                if (said.size() > 5) x.unless = num(said.get(5));
                p.rules.add(x);
            }
        }
    }

    private static int named(Plant p, String w) {
        for (int i = 0; i < p.points.size(); i++) if (p.points.get(i).name.equals(w)) return i;
        return NONE;
    }

    private static int num(String w) {
        String bare = w.replaceFirst("^0+", "");
        return bare.isEmpty() ? 0 : bare.length() > 6 ? 999999 : Integer.parseInt(bare);
    }

    private static boolean within(String w, int least, int most) {
        return w.matches("[0-9]+") && num(w) >= least && num(w) <= most;
    }

    // ---- points and windows

    boolean stick(int window, int how) {
        if (noWindow(window) || how < 0 || how > 2) return false;
        plant.windows.get(window).how = how;
        return true;
    }

    int window(int window, int what) {
        if (noWindow(window)) return NONE;
        Window w = plant.windows.get(window);
        if (what == 0) return w.point;
        if (what == 1) return w.lag;
        if (what == 2) return w.how;
        if (what == 3) return w.place;
        return NONE;
    }

    private int[] times(int heap) {
        return known.computeIfAbsent(heap, this::timesOf);
    }

    /** Second by second; in one second again and again, until nothing more fails in it. */
    private int[] timesOf(int heap) {
        int n = plant.points.size();
        int[] failed = new int[n];
        Arrays.fill(failed, NEVER);
        for (int i = 0; i < n; i++) if ((heap & 1 << i) != 0) failed[i] = 0;
        for (int second = 0; second <= 60 * 12; second++) {
            boolean more = true;
            while (more) {
                more = false;
                for (int i = 0; i < n; i++) {
                    if (failed[i] == NEVER && failsBy(i, second, failed)) {
                        failed[i] = second;
                        more = true;
                    }
                }
            }
        }
        return failed;
    }

    private boolean failsBy(int point, int second, int[] failed) {
        int some = 0, due = 0;
        for (Arc a : plant.arcs) {
            if (a.to != point) continue;
            some++;
            if (failed[a.from] != NEVER && failed[a.from] + a.delay <= second) due++;
        }
        return plant.points.get(point).all ? some > 0 && due == some : due > 0;
    }

    private int[] lights(int heap, boolean sticking) {
        int[] failed = times(heap);
        int[] lit = new int[plant.windows.size()];
        for (int i = 0; i < lit.length; i++) {
            Window w = plant.windows.get(i);
            lit[i] = failed[w.point] == NEVER ? NEVER : failed[w.point] + w.lag;
            if (sticking && w.how == 1) lit[i] = 0;
            if (sticking && w.how == 2) lit[i] = NEVER;
        }
        return lit;
    }

    int fails(int heap, int point) {
        if (noHeap(heap) || noPoint(point)) return NONE;
        int t = times(heap)[point];
        return t == NEVER ? NONE : t;
    }

    int lit(int heap, int window) {
        if (noHeap(heap) || noWindow(window)) return NONE;
        int t = lights(heap, true)[window];
        return t == NEVER ? NONE : t;
    }

    int first(int heap, int what) {
        if (noHeap(heap) || what != 0 && what != 1) return NONE;
        int[] lit = lights(heap, true);
        for (int second = 0; second < 900; second++)
            for (int w = 0; w < lit.length; w++)
                if (plant.windows.get(w).how == 0 && lit[w] == second)
                    return what == 0 ? w : (heap & 1 << plant.windows.get(w).point) == 0 ? 1 : 0;
        return NONE;
    }

    int horns(int heap, int s) {
        if (noHeap(heap) || s < 1 || s > 60) return NONE;
        int[] lit = lights(heap, true);
        int begun = 0, left = 0;
        for (int second = 0; second < 900; second++) {
            boolean gets = false;
            for (int w = 0; w < lit.length; w++) gets |= plant.windows.get(w).how == 0 && lit[w] == second;
            if (gets && left == 0) { begun++; left = s; }
            if (left > 0) left--;
        }
        return begun;
    }

    // ---- the log

    int log(int window, int second) {
        if (noWindow(window) || second < 0 || second > 999 || rows.size() == 60) return NONE;
        if (!rows.isEmpty() && second < rows.get(rows.size() - 1).second) return NONE;
        rows.add(new Row(window, second));
        return rows.size();
    }

    int erase() {
        int had = rows.size();
        rows.clear();
        return had;
    }

    int joined(int g) {
        if (g < 0 || g > 60) return NONE;
        int[] before = new int[12];
        Arrays.fill(before, -1000);
        int apart = 0;
        for (Row r : rows) {
            if (!(r.second - before[r.window] < g)) apart++;
            before[r.window] = r.second;
        }
        return apart;
    }

    boolean off(int e) {
        if (e < 0 || e > 20) return false;
        unlike = e;
        return true;
    }

    private int[] explained(List<Row> log) {
        int n = plant.points.size();
        int last = log.isEmpty() ? 0 : log.get(log.size() - 1).second;
        int[] seen = new int[plant.windows.size()];
        Arrays.fill(seen, NONE);
        for (int i = log.size() - 1; i >= 0; i--) seen[log.get(i).window] = log.get(i).second;
        List<int[]> all = new ArrayList<>();
        for (int heap = 0; heap < 1 << n; heap++) {
            if (Integer.bitCount(heap) > 3) continue;
            int[] lit = lights(heap, false);
            int[] best = null;
            for (int b = 0; b <= last; b++) {
                int wrong = 0;
                for (int w = 0; w < lit.length; w++) {
                    boolean right = seen[w] == NONE
                        ? lit[w] == NEVER || b + lit[w] > last
                        : lit[w] != NEVER && Math.abs(b + lit[w] - seen[w]) <= unlike;
                    if (!right) wrong |= 1 << w;
                }
                int cost = 2 * Integer.bitCount(heap) + Integer.bitCount(wrong);
                if (best == null || cost < best[0]) best = new int[] {cost, heap, b, wrong};
            }
            all.add(best);
        }
        int least = all.stream().mapToInt(x -> x[0]).min().getAsInt();
        all.removeIf(x -> x[0] != least);
        all.sort((x, y) -> Integer.bitCount(x[1]) != Integer.bitCount(y[1])
            ? Integer.bitCount(x[1]) - Integer.bitCount(y[1]) : x[1] - y[1]);
        int[] out = {least, all.get(0)[1], all.get(0)[2], all.get(0)[3], all.size(), -1, 0, -1};
        for (int[] x : all) { out[5] &= x[1]; out[6] |= x[1]; out[7] &= x[3]; }
        return out;
    }

    int explain(int what) {
        if (plant.points.isEmpty() || what < 0 || what > 7) return NONE;
        return explained(rows)[what];
    }

    int altered(int k, int second) {
        if (k < 0 || k >= rows.size() || second < 0 || second > 999) return NONE;
        List<Row> log = new ArrayList<>(rows);
        log.set(k, new Row(rows.get(k).window, second));
        return explained(log)[0];
    }

    // ---- rules

    boolean rest(int rule, boolean rests) {
        if (rule < 0 || rule >= plant.rules.size() || plant.rules.get(rule).rests == rests) return false;
        plant.rules.get(rule).rests = rests;
        return true;
    }

    boolean till(int t) {
        if (t < 1 || t > 600) return false;
        till = t;
        return true;
    }

    private static int at(int[] lit, int second) {
        int bits = 0;
        for (int w = 0; w < lit.length; w++) if (lit[w] <= second) bits |= 1 << w;
        return bits;
    }

    private int shown(int lit, int alsoResting) {
        int bits = lit;
        for (int r = 0; r < plant.rules.size(); r++) {
            Rule x = plant.rules.get(r);
            if (x.rests || (alsoResting & 1 << r) != 0) continue;
            boolean cause = (lit & 1 << x.cause) != 0;
            boolean kept = x.unless != NONE && (lit & 1 << x.unless) != 0;
            if (cause && !kept) bits &= ~(1 << x.hides);
        }
        return bits;
    }

    int board(int heap, int second, int what) {
        if (noHeap(heap) || second < 0 || second > 999 || what != 0 && what != 1) return NONE;
        int lit = at(lights(heap, true), second);
        return what == 0 ? lit : shown(lit, 0);
    }

    private int[] harms(int alsoResting) {
        int n = plant.points.size();
        int[] sign = new int[n], seen = new int[n];
        for (int p = 0; p < n; p++) {
            sign[p] = at(lights(1 << p, true), till);
            seen[p] = shown(sign[p], alsoResting);
        }
        int[] out = new int[2];
        for (int p = 0; p < n; p++) {
            if (sign[p] != 0 && seen[p] == 0) out[0]++;
            for (int q = p + 1; q < n; q++) if (sign[p] != sign[q] && seen[p] == seen[q]) out[1]++;
        }
        return out;
    }

    int harm(int what) {
        if (plant.points.isEmpty() || what < 0 || what > 2) return NONE;
        if (what < 2) return harms(0)[what];
        int free = 0;
        for (int r = 0; r < plant.rules.size(); r++) if (!plant.rules.get(r).rests) free |= 1 << r;
        for (int size = 0; size <= 8; size++)
            for (int bits = 0; bits < 256; bits++)
                if (Integer.bitCount(bits) == size && (bits & ~free) == 0 && harms(bits)[0] == 0 && harms(bits)[1] == 0)
                    return bits;
        return NONE;
    }

    // ---- the wall

    private Window atPlace(int place) {
        for (Window w : plant.windows) if (w.place == place) return w;
        return null;
    }

    boolean change(int one, int other) {
        if (noWindow(one) || noWindow(other) || one == other) return false;
        Window a = atPlace(one), b = atPlace(other);
        a.place = other;
        b.place = one;
        return true;
    }

    private int tell(int point, int pace, int[][] lit) {
        int stuck = 0, read = 0, second = 0;
        for (int w = 0; w < plant.windows.size(); w++) if (plant.windows.get(w).how == 1) stuck |= 1 << w;
        while (second <= till) {
            int open = shown(at(lit[point], second), 0) & ~read;
            if (open == 0) { second++; continue; }
            int next = NONE;
            for (int w = 0; w < plant.windows.size(); w++)
                if ((open & 1 << w) != 0 && (next == NONE || plant.windows.get(w).place < plant.windows.get(next).place))
                    next = w;
            read |= 1 << next;
            second += pace;
            int may = 0;
            for (int p = 0; p < plant.points.size(); p++)
                if ((read & ~stuck & ~at(lit[p], till)) == 0) may++;
            if (may == 1) return second <= till ? second : NONE;
        }
        return NONE;
    }

    private int[][] alone() {
        int[][] lit = new int[plant.points.size()][];
        for (int p = 0; p < lit.length; p++) lit[p] = lights(1 << p, true);
        return lit;
    }

    int told(int point, int pace) {
        if (noPoint(point) || pace < 1 || pace > 30) return NONE;
        return tell(point, pace, alone());
    }

    private int sum(int pace, int[][] lit) {
        int sum = 0;
        for (int p = 0; p < lit.length; p++) {
            int t = tell(p, pace, lit);
            sum += t == NONE ? till : t;
        }
        return sum;
    }

    int wall(int pace, int what) {
        if (plant.points.isEmpty() || pace < 1 || pace > 30 || what < 0 || what > 3) return NONE;
        int[][] lit = alone();
        int now = sum(pace, lit);
        if (what == 0) return now;
        int[] best = {NONE, NONE, now};
        for (int one = 0; one < plant.windows.size(); one++) {
            for (int other = one + 1; other < plant.windows.size(); other++) {
                change(one, other);
                int then = sum(pace, lit);
                change(one, other);
                if (then < best[2]) best = new int[] {one, other, then};
            }
        }
        return best[0] == NONE ? NONE : best[what - 1];
    }

    int count(int what) {
        switch (what) {
            case 0: return plant.points.size();
            case 1: return plant.arcs.size();
            case 2: return plant.windows.size();
            case 3: return plant.rules.size();
            case 4: return rows.size();
            case 5: return (int) plant.rules.stream().filter(r -> r.rests).count();
            case 6: return (int) plant.windows.stream().filter(w -> w.how != 0).count();
            case 7: return text.length();
            default: return NONE;
        }
    }

    private boolean noPoint(int point) { return point < 0 || point >= plant.points.size(); }
    private boolean noWindow(int window) { return window < 0 || window >= plant.windows.size(); }
    private boolean noHeap(int heap) { return plant.points.isEmpty() || heap < 0 || heap >= 1 << plant.points.size(); }
}
