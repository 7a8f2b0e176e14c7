/** Like calls on the program and on the slow model of the document: like answers are due (all promises). */
public final class SlowTest {
    private static long seed;
    private static final Check check = new Check("SlowTest");

    public static void main(String[] args) {
        int runs = args.length > 0 ? Integer.parseInt(args[0]) : 60;
        int from = args.length > 1 ? Integer.parseInt(args[1]) : 0;
        for (int run = from; run < from + runs; run++) {
            seed = 77777L * run + 1;
            clock = 0;
            LitWindows x = new LitWindows();
            Slow y = new Slow();
            boolean full = run % 5 == 4;
            int points = full ? 12 : 1 + next(run % 3 == 0 ? 12 : 6);
            String text = plantText(points, full);
            // Without a plant first: then every call has little or nothing to answer of.
            for (int i = 0; i < 40; i++) {
                calls(x, y, 1 + i % 3, "run " + run + " call " + i + " without a plant ");
            }
            texts(x, y, text);
            for (int i = 0; i < 120; i++) {
                calls(x, y, points, "run " + run + " call " + i + " ");
            }
        }
        check.finish();
    }

    /** A number from 0 on below the bound, always the same for the same run. */
    private static int next(int bound) {
        seed = seed * 6364136223846793005L + 1442695040888963407L;
        return (int) ((seed >>> 33) % bound);
    }

    /** A full one has as many points, windows and rules as can be, and the arcs that still have room. */
    private static String plantText(int points, boolean full) {
        StringBuilder s = new StringBuilder();
        int spread = next(2) == 0 ? 61 : 1 + next(20);
        for (int i = 0; i < points; i++) s.append("point ").append((char) ('a' + i)).append(next(3) == 0 ? " all;" : " any;");
        int arcs = full ? 24 : next(Math.min(25, 2 + 2 * points));
        int windows = full ? 12 : next(13);
        int rules = full ? 8 : windows > 2 ? next(9) : 0;
        if (!full) arcs(s, points, arcs, spread);
        for (int i = 0; i < windows; i++) {
            s.append("window ").append((char) ('a' + next(points))).append(' ').append(next(spread));
            int more = full ? 0 : next(3);
            for (int j = 0; j < more; j++) s.append(' ').append(next(spread));
            if (more > 0) s.append(" of ").append(1 + next(more + 1));
            s.append(";\n");
        }
        for (int i = 0; i < rules; i++) {
            int a = next(windows), b = (a + 1 + next(windows - 1)) % windows;
            s.append("hide ").append(a).append(" while ").append(b);
            int c = next(windows);
            if (c != a && c != b && next(2) == 0) s.append(" not ").append(c);
            s.append(";");
        }
        if (full) arcs(s, points, arcs, spread);
        return s.length() > 600 ? s.substring(0, s.lastIndexOf(";", 599) + 1) : s.toString();
    }

    private static void arcs(StringBuilder s, int points, int arcs, int spread) {
        for (int i = 0; i < arcs; i++) {
            s.append("from ").append((char) ('a' + next(points))).append(" to ").append((char) ('a' + next(points)));
            s.append(" in ").append(next(spread)).append(";");
        }
    }

    /** Spoiled texts first, then the whole one, so that the runs that follow have a plant. */
    private static void texts(LitWindows x, Slow y, String text) {
        for (int i = 0; i < 60; i++) {
            String spoiled = spoil(text);
            write(x, y, spoiled);
            check.due("fault of [" + spoiled + "]", x.fault(), y.fault());
        }
        write(x, y, text);
        check.due("plant of [" + text + "]", x.plant(), y.plant());
    }

    private static final String[] PARTS = {"point", "any", "all", "from", "to", "in", "window", "of", "hide", "while",
        "not", ";", "0", "1", "2", "60", "61", "007", "a", "b", "zz", "longname", "longnamee", " ", "\n", "\t", "A", "\u00e9"};

    private static String spoil(String text) {
        StringBuilder s = new StringBuilder(text);
        int times = next(3);
        for (int i = 0; i < times; i++) {
            int place = next(s.length() + 1);
            int kind = next(3);
            if (kind == 0) s.insert(place, PARTS[next(PARTS.length)]);
            if (kind == 1) s.delete(place, Math.min(s.length(), place + 1 + next(6)));
            if (kind == 2) s.insert(place, " " + PARTS[next(PARTS.length)] + " ");
        }
        if (next(6) == 0) s.setLength(next(s.length() + 1));
        if (s.length() > 600) s.setLength(600);
        return s.toString();
    }

    private static void write(LitWindows x, Slow y, String text) {
        x.end(0);
        y.end(0);
        for (int i = 0; i < text.length(); i += 20) {
            int[] w = new int[5];
            for (int j = 0; j < 5; j++) w[j] = Check.word(text, i + 4 * j);
            check.due("feed", x.feed(w[0], w[1], w[2], w[3], w[4]), y.feed(w[0], w[1], w[2], w[3], w[4]));
        }
        check.due("end", x.end(text.length()), y.end(text.length()));
    }

    private static int clock = 0;

    private static void calls(LitWindows x, Slow y, int points, String at) {
        int heap = next(20) == 0 ? next(5000) - 400 : next(1 << points);
        int p = next(points + 2) - 1, w = next(15) - 1, s = next(720), pace = next(33) - 1;
        switch (next(26)) {
            case 0: check.due(at + "fails", x.fails(heap, p), y.fails(heap, p)); break;
            case 1: check.due(at + "lit", x.lit(heap, w), y.lit(heap, w)); break;
            case 2: check.due(at + "first", x.first(heap, s % 4 - 1), y.first(heap, s % 4 - 1)); break;
            case 3: check.due(at + "horns", x.horns(heap, s % 63 - 1), y.horns(heap, s % 63 - 1)); break;
            case 4: case 5: case 6: rows(x, y, heap, at); break;
            case 7: if (s % 4 == 0) { clock = 0; check.due(at + "erase", x.erase(), y.erase()); } break;
            case 8: check.due(at + "joined", x.joined(s % 64 - 1), y.joined(s % 64 - 1)); break;
            case 9: check.due(at + "off", x.off(s % 24 - 2), y.off(s % 24 - 2)); break;
            case 10: case 11: for (int i = -1; i < 9; i++) check.due(at + "explain " + i, x.explain(i), y.explain(i)); break;
            case 12: case 13: check.due(at + "altered", x.altered(p, s), y.altered(p, s)); break;
            case 14: case 15: check.due(at + "rest", x.rest(w, s % 2 == 0), y.rest(w, s % 2 == 0)); break;
            case 16: check.due(at + "till", x.till(s - 20), y.till(s - 20)); break;
            case 17: check.due(at + "board 0", x.board(heap, s, 0), y.board(heap, s, 0)); break;
            case 18: check.due(at + "board 1", x.board(heap, s / 3, 1), y.board(heap, s / 3, 1)); break;
            case 19: for (int i = -1; i < 4; i++) check.due(at + "harm " + i, x.harm(i), y.harm(i)); break;
            case 20: check.due(at + "change", x.change(w, s % 14 - 1), y.change(w, s % 14 - 1)); break;
            case 21: check.due(at + "told", x.told(p, pace), y.told(p, pace)); break;
            case 22: for (int i = -1; i < 5; i++) check.due(at + "wall " + i, x.wall(pace, i), y.wall(pace, i)); break;
            case 23: for (int i = -1; i < 9; i++) check.due(at + "count " + i, x.count(i), y.count(i)); break;
            case 24: check.due(at + "window", x.window(w, s % 6 - 1), y.window(w, s % 6 - 1)); break;
            default: check.due(at + "stick", x.stick(w, s % 5 - 1), y.stick(w, s % 5 - 1));
        }
    }

    /** Rows as a failing heap would make them, some of them moved or left out. */
    private static void rows(LitWindows x, Slow y, int heap, String at) {
        int begin = clock + next(40);
        int few = heap & (1 << next(12) | 1 << next(12));
        for (int second = 0; second < 200; second++) {
            for (int w = 0; w < 12; w++) {
                if (y.lit(few, w) == second && next(5) != 0) {
                    clock = Math.max(clock, Math.min(999, begin + second + next(3) * next(3)));
                    check.due(at + "log", x.log(w, clock), y.log(w, clock));
                }
            }
        }
        int w = next(14) - 1, s = clock + next(6) - 1;
        int got = x.log(w, s);
        if (got >= 0) clock = s;
        check.due(at + "log", got, y.log(w, s));
    }
}
