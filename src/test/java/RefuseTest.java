import java.util.ArrayList;
import java.util.List;

/**
 * "What is refused changes nothing.": behind each refused call, all that can be asked of the object is answered
 * as by one that was made alike and never had that call. Questions that are answered change nothing either.
 */
public final class RefuseTest {
    private static final Check check = new Check("RefuseTest");

    private interface Call {
        int of(LitWindows x);
    }

    private interface Maker {
        LitWindows make();
    }

    private static final int FALSE = 0;
    private static final int NONE = -1;
    private static final int[] ODD = {Integer.MIN_VALUE, -2, -1, 13, 62, 1000, Integer.MAX_VALUE};
    private static int calls = 0;

    public static void main(String[] args) {
        Maker[] makers = {LitWindows::new, RefuseTest::textAlone, RefuseTest::bare, RefuseTest::set, RefuseTest::full};
        String[] names = {"new", "text alone", "bare", "set", "full"};
        for (int i = 0; i < makers.length; i++) {
            alwaysRefused(names[i], makers[i]);
            questions(names[i], makers[i]);
        }
        withoutPlant("new", LitWindows::new);
        withoutPlant("text alone", RefuseTest::textAlone);
        withoutWindows();
        refusedWhenSet();
        refusedWhenFull();
        check.due("calls that were tried", calls > 1000, true);
        check.finish();
    }

    // ---- the objects

    private static final String FAULTY = "point p any;point q all;from p to q in 7;window q 1 2 of 3;";

    private static LitWindows textAlone() {
        LitWindows x = new LitWindows();
        Check.write(x, FAULTY);
        return x;
    }

    private static LitWindows bare() {
        return Check.of("point a any;point b all;from a to b in 9;");
    }

    /** Everything is other than at first. */
    private static LitWindows set() {
        LitWindows x = Check.of("point a any;point b any;point c all;point d any;from a to b in 10;from b to c in 3;from a to c in 20;from d to c in 1;"
            + "window a 5;window b 1;window c 2 8 9 of 2;window d 0;window b 20;hide 1 while 0;hide 0 while 2 not 3;hide 4 while 1;");
        x.stick(3, 2);
        x.stick(4, 1);
        x.rest(0, true);
        x.change(0, 3);
        x.change(1, 4);
        x.log(0, 25);
        x.log(1, 30);
        x.log(1, 33);
        x.log(4, 40);
        x.till(77);
        x.off(3);
        Check.write(x, FAULTY);
        return x;
    }

    /** As many of everything as there can be, and a text of 600 bytes with a fault at its end. */
    private static LitWindows full() {
        StringBuilder s = new StringBuilder();
        for (int i = 0; i < 12; i++) {
            s.append("point ").append((char) ('a' + i)).append(i % 3 == 0 ? " all;" : " any;");
        }
        for (int i = 0; i < 10; i++) {
            s.append("from ").append((char) ('a' + i)).append(" to ").append((char) ('a' + i + 1)).append(" in").append(3 * i).append(';');
        }
        for (int i = 0; i < 12; i++) {
            s.append("window ").append((char) ('a' + i)).append(5 * i).append(';');
        }
        for (int i = 0; i < 8; i++) {
            s.append("hide").append(i).append("while").append(i + 1).append(';');
        }
        LitWindows x = Check.of(s.toString());
        for (int w = 0; w < 12; w += 5) {
            x.stick(w, 1 + w % 2);
        }
        for (int r = 0; r < 8; r++) {
            x.rest(r, true);
        }
        for (int i = 0; i < 60; i++) {
            x.log(i * 7 % 12, 20 + i / 3);
        }
        x.change(2, 11);
        x.till(600);
        x.off(20);
        Check.write(x, "point z any;" + " ".repeat(582) + "window");
        return x;
    }

    // ---- what can be asked

    private static List<Integer> answers(LitWindows x) {
        List<Integer> all = new ArrayList<>();
        for (int what = 0; what < 8; what++) {
            all.add(x.count(what));
            all.add(x.explain(what));
        }
        all.add(x.fault());
        for (int w = 0; w < 12; w++) {
            for (int what = 0; what < 4; what++) {
                all.add(x.window(w, what));
            }
            all.add(x.fails(5, w));
            all.add(x.lit(1, w));
            all.add(x.told(w, 2));
        }
        for (int what = 0; what < 4; what++) {
            all.add(x.harm(what));
            all.add(x.wall(3, what));
            all.add(x.board(1, 12 * what, 0));
            all.add(x.board(3, 12 * what, 1));
            all.add(x.horns(what, 4));
            all.add(x.first(what, 0));
            all.add(x.joined(what * 20));
            all.add(x.altered(what, 30));
        }
        changing(x, all);
        return all;
    }

    /** At last what is asked by changing it: the log's last second, which rules rest, the text, and by a new plant T and E. */
    private static void changing(LitWindows x, List<Integer> all) {
        for (int r = 0; r < 8; r++) {
            all.add(x.rest(r, true) ? 1 : 0);
        }
        for (int second = 38; second < 42; second++) {
            all.add(x.log(0, second));
        }
        all.add(x.plant());
        for (int cut = 0; cut < 20; cut++) {
            all.add(x.fault());
            all.add(x.end(x.count(7) - 1 - cut % 3) ? 1 : 0);
        }
        all.add(x.feed(0x20202020, 0x20202020, 0x20202020, 0x20202020, 0x20202020));
        all.add(x.fault());
        all.add(x.erase());
        Check.write(x, "point a any;point b any;window a 0;window a 0;window a 0;");
        all.add(x.plant());
        for (int w = 0; w < 3; w++) {
            all.add(x.window(w, 2));
            all.add(x.window(w, 3));
            all.add(x.log(w, 100));
        }
        all.add(x.explain(2));
        all.add(x.wall(1, 0));
    }

    private static void refused(String name, Maker maker, int due, Call call) {
        LitWindows x = maker.make();
        check.due(name + " is refused", call.of(x), due);
        check.due(name + " changes nothing", answers(x).equals(answers(maker.make())), true);
        calls++;
    }

    private static void asked(String name, Maker maker, Call call) {
        LitWindows x = maker.make();
        int first = call.of(x);
        check.due(name + " asked again", call.of(x), first);
        check.due(name + " changes nothing", answers(x).equals(answers(maker.make())), true);
        calls++;
    }

    private static int bool(boolean answer) {
        return answer ? 1 : 0;
    }

    // ---- calls

    /** Of no object can these be. */
    private static void alwaysRefused(String of, Maker m) {
        for (int n : ODD) {
            String at = of + ": " + n + " into ";
            for (int how = 0; how < 3; how++) {
                int sticks = how;
                refused(at + "stick", m, FALSE, x -> bool(x.stick(n, sticks)));
                refused(at + "window", m, NONE, x -> x.window(n, sticks));
            }
            refused(at + "stick how", m, FALSE, x -> bool(x.stick(0, n)));
            refused(at + "window what", m, NONE, x -> x.window(0, n));
            refused(at + "fails point", m, NONE, x -> x.fails(1, n));
            refused(at + "lit window", m, NONE, x -> x.lit(1, n));
            refused(at + "first what", m, NONE, x -> x.first(1, n));
            refused(at + "horns s", m, NONE, x -> x.horns(1, n == 13 ? 61 : n));
            refused(at + "log window", m, NONE, x -> x.log(n, 999));
            refused(at + "joined", m, NONE, x -> x.joined(n == 13 ? 61 : n));
            refused(at + "off", m, FALSE, x -> bool(x.off(n == 13 ? 21 : n)));
            refused(at + "explain", m, NONE, x -> x.explain(n == 13 ? 8 : n));
            refused(at + "altered row", m, NONE, x -> x.altered(n == 13 ? 60 : n, 50));
            refused(at + "rest", m, FALSE, x -> bool(x.rest(n == 13 ? 8 : n, true)));
            refused(at + "rest no more", m, FALSE, x -> bool(x.rest(n == 13 ? 8 : n, false)));
            refused(at + "till", m, FALSE, x -> bool(x.till(n == 13 ? 601 : n == 62 ? 0 : n)));
            refused(at + "board what", m, NONE, x -> x.board(1, 50, n == 13 ? 2 : n));
            refused(at + "harm", m, NONE, x -> x.harm(n == 13 ? 3 : n));
            refused(at + "change", m, FALSE, x -> bool(x.change(0, n == 13 ? 12 : n)));
            refused(at + "change", m, FALSE, x -> bool(x.change(n == 13 ? 12 : n, 0)));
            refused(at + "told point", m, NONE, x -> x.told(n == 13 ? 12 : n, 1));
            refused(at + "told pace", m, NONE, x -> x.told(0, n == 13 ? 31 : n == 62 ? 0 : n));
            refused(at + "wall pace", m, NONE, x -> x.wall(n == 13 ? 31 : n == 62 ? 0 : n, 0));
            refused(at + "wall what", m, NONE, x -> x.wall(1, n == 13 ? 4 : n));
            refused(at + "count", m, NONE, x -> x.count(n == 13 ? 8 : n));
            int second = n == 13 || n == 62 ? 1001 : n;
            refused(at + "log second", m, NONE, x -> x.log(0, second));
            refused(at + "altered second", m, NONE, x -> x.altered(0, second));
            refused(at + "board second", m, NONE, x -> x.board(1, second, 0));
            refused(at + "end", m, FALSE, x -> bool(x.end(second)));
            int heap = n == 13 || n == 62 ? 4096 : n == 1000 ? 1 << 20 : n;
            refused(at + "fails heap", m, NONE, x -> x.fails(heap, 0));
            refused(at + "lit heap", m, NONE, x -> x.lit(heap, 0));
            refused(at + "first heap", m, NONE, x -> x.first(heap, 0));
            refused(at + "horns heap", m, NONE, x -> x.horns(heap, 5));
            refused(at + "board heap", m, NONE, x -> x.board(heap, 50, 1));
        }
        refused(of + ": plant of a text with a fault", faulty(m), NONE, LitWindows::plant);
        for (int place = 0; place < 12; place++) {
            int same = place;
            refused(of + ": change of place " + place + " with itself", m, FALSE, x -> bool(x.change(same, same)));
        }
    }

    /** The object with a fault in its text; those that have one already stay as they are. */
    private static Maker faulty(Maker m) {
        return () -> {
            LitWindows x = m.make();
            if (x.fault() == NONE) {
                Check.write(x, FAULTY);
            }
            return x;
        };
    }

    /** Questions in their right numbers. */
    private static void questions(String of, Maker m) {
        asked(of + ": fault", m, LitWindows::fault);
        for (int i = 0; i < 12; i++) {
            int n = i;
            asked(of + ": window", m, x -> x.window(n, n % 4));
            asked(of + ": fails", m, x -> x.fails(1 << n, 11 - n));
            asked(of + ": lit", m, x -> x.lit(1 << n, n));
            asked(of + ": first", m, x -> x.first(n, n % 2));
            asked(of + ": horns", m, x -> x.horns(n, 1 + 5 * n));
            asked(of + ": joined", m, x -> x.joined(5 * n));
            asked(of + ": explain", m, x -> x.explain(n % 8));
            asked(of + ": altered", m, x -> x.altered(5 * n, 83 * n));
            asked(of + ": altered", m, x -> x.altered(n % 4, 999));
            asked(of + ": altered", m, x -> x.altered(n % 4, 0));
            asked(of + ": board", m, x -> x.board(n, 90 * n, n % 2));
            asked(of + ": harm", m, x -> x.harm(n % 3));
            asked(of + ": told", m, x -> x.told(n, 1 + 2 * n));
            asked(of + ": wall", m, x -> x.wall(1 + 2 * n, n % 4));
            asked(of + ": count", m, x -> x.count(n % 8));
        }
    }

    private static void withoutPlant(String of, Maker m) {
        refused(of + ": plant", m, NONE, LitWindows::plant);
        refused(of + ": stick", m, FALSE, x -> bool(x.stick(0, 1)));
        refused(of + ": log", m, NONE, x -> x.log(0, 0));
        refused(of + ": rest", m, FALSE, x -> bool(x.rest(0, true)));
        refused(of + ": change", m, FALSE, x -> bool(x.change(0, 1)));
        refused(of + ": altered", m, NONE, x -> x.altered(0, 0));
        refused(of + ": explain", m, NONE, x -> x.explain(0));
        refused(of + ": harm", m, NONE, x -> x.harm(0));
        refused(of + ": told", m, NONE, x -> x.told(0, 1));
        refused(of + ": wall", m, NONE, x -> x.wall(1, 0));
        refused(of + ": fails", m, NONE, x -> x.fails(0, 0));
        refused(of + ": lit", m, NONE, x -> x.lit(0, 0));
        refused(of + ": first", m, NONE, x -> x.first(0, 0));
        refused(of + ": horns", m, NONE, x -> x.horns(0, 1));
        refused(of + ": board", m, NONE, x -> x.board(0, 0, 0));
        refused(of + ": window", m, NONE, x -> x.window(0, 0));
    }

    private static void withoutWindows() {
        Maker m = RefuseTest::bare;
        refused("bare: stick", m, FALSE, x -> bool(x.stick(0, 1)));
        refused("bare: log", m, NONE, x -> x.log(0, 0));
        refused("bare: rest", m, FALSE, x -> bool(x.rest(0, true)));
        refused("bare: change", m, FALSE, x -> bool(x.change(0, 1)));
        refused("bare: window", m, NONE, x -> x.window(0, 0));
        refused("bare: lit", m, NONE, x -> x.lit(1, 0));
        refused("bare: end", m, FALSE, x -> bool(x.end(1)));
        refused("bare: plant of no text", m, NONE, LitWindows::plant);
    }

    private static void refusedWhenSet() {
        Maker m = RefuseTest::set;
        refused("set: log a second less", m, NONE, x -> x.log(0, 39));
        refused("set: log at 0", m, NONE, x -> x.log(4, 0));
        refused("set: log of window 5", m, NONE, x -> x.log(5, 500));
        refused("set: stick of window 5", m, FALSE, x -> bool(x.stick(5, 1)));
        refused("set: stick by 3", m, FALSE, x -> bool(x.stick(4, 3)));
        refused("set: stick by -1", m, FALSE, x -> bool(x.stick(4, -1)));
        refused("set: rest of rule 0 again", m, FALSE, x -> bool(x.rest(0, true)));
        refused("set: rest no more of rule 1", m, FALSE, x -> bool(x.rest(1, false)));
        refused("set: rest no more of rule 2", m, FALSE, x -> bool(x.rest(2, false)));
        refused("set: rest of rule 3", m, FALSE, x -> bool(x.rest(3, true)));
        refused("set: change with place 5", m, FALSE, x -> bool(x.change(4, 5)));
        refused("set: change with place -1", m, FALSE, x -> bool(x.change(-1, 4)));
        refused("set: end of one more", m, FALSE, x -> bool(x.end(FAULTY.length() + 1)));
        refused("set: plant", m, NONE, LitWindows::plant);
        refused("set: altered row 4", m, NONE, x -> x.altered(4, 50));
        refused("set: heap 16", m, NONE, x -> x.horns(16, 5));
        refused("set: fails of point 4", m, NONE, x -> x.fails(1, 4));
        refused("set: told of point 4", m, NONE, x -> x.told(4, 5));
    }

    private static void refusedWhenFull() {
        Maker m = RefuseTest::full;
        check.due("full: points", full().count(0), 12);
        check.due("full: windows", full().count(2), 12);
        check.due("full: rules", full().count(3), 8);
        check.due("full: rows", full().count(4), 60);
        check.due("full: bytes", full().count(7), 600);
        refused("full: a 61st row", m, NONE, x -> x.log(0, 999));
        refused("full: a 61st row in the last second", m, NONE, x -> x.log(11, 39));
        refused("full: feed", m, NONE, x -> x.feed(0x3b3b3b3b, 0, -1, 1, 0x7f7f7f7f));
        refused("full: end(601)", m, FALSE, x -> bool(x.end(601)));
        refused("full: plant", m, NONE, LitWindows::plant);
        refused("full: altered(60)", m, NONE, x -> x.altered(60, 50));
        for (int r = 0; r < 8; r++) {
            int rule = r;
            refused("full: rest again", m, FALSE, x -> bool(x.rest(rule, true)));
        }
        for (int cut = 1; cut < 20; cut++) {
            int left = 600 - cut;
            Maker shorter = () -> {
                LitWindows x = full();
                x.end(left);
                return x;
            };
            refused("full but " + cut + ": feed", shorter, NONE, x -> x.feed(0x3b3b3b3b, 0, -1, 1, 0x7f7f7f7f));
        }
    }
}
