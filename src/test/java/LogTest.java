/** Promises 12 to 17: log, erase, joined, off, explain, altered. */
public final class LogTest {
    private static final Check check = new Check("LogTest");

    public static void main(String[] args) {
        rows();
        joining();
        offs();
        costs();
        ties();
        lastRow();
        moreCauses();
        sticking();
        altering();
        check.finish();
    }

    private static void explained(String what, LitWindows x, int... due) {
        for (int i = 0; i < due.length; i++) {
            check.due(what + ": explain(" + i + ")", x.explain(i), due[i]);
        }
    }

    private static LitWindows logged(String plant, int... rows) {
        LitWindows x = Check.of(plant);
        for (int i = 0; i + 1 < rows.length; i += 2) {
            x.log(rows[i], rows[i + 1]);
        }
        return x;
    }

    private static void rows() {
        LitWindows x = Check.of("point a any; window a 1; window a 2;");
        check.due("log(2, 0)", x.log(2, 0), -1);
        check.due("log(-1, 0)", x.log(-1, 0), -1);
        check.due("log(0, -1)", x.log(0, -1), -1);
        check.due("log(0, 1000)", x.log(0, 1000), -1);
        check.due("refused rows", x.count(4), 0);
        check.due("log(0, 5)", x.log(0, 5), 1);
        check.due("log(1, 4)", x.log(1, 4), -1);
        check.due("log(1, 5)", x.log(1, 5), 2);
        for (int i = 3; i <= 60; i++) {
            check.due("row " + i, x.log(i % 2, i == 60 ? 999 : i + 5), i);
        }
        check.due("a 61st row", x.log(0, 999), -1);
        check.due("rows", x.count(4), 60);
        check.due("erase", x.erase(), 60);
        check.due("erase again", x.erase(), 0);
        check.due("rows", x.count(4), 0);
        check.due("from 0 again", x.log(0, 0), 1);
    }

    private static void joining() {
        LitWindows x = logged("point a any; window a 1; window a 2;", 0, 10, 0, 14, 1, 15, 0, 18, 1, 18, 1, 18, 0, 78);
        int[] g = {0, 1, 3, 4, 5, 60};
        int[] due = {7, 6, 6, 5, 3, 3};
        for (int i = 0; i < g.length; i++) {
            check.due("joined(" + g[i] + ")", x.joined(g[i]), due[i]);
        }
        check.due("joined(61)", x.joined(61), -1);
        check.due("joined(-1)", x.joined(-1), -1);
        x.erase();
        check.due("joined of none", x.joined(5), 0);
    }

    private static void offs() {
        LitWindows x = logged("point a any; window a 5; window a 9; window a 20;", 0, 25, 1, 31, 2, 40);
        check.due("off(-1)", x.off(-1), false);
        check.due("off(21)", x.off(21), false);
        explained("0 at first", x, 3, 0, 0, 7, 2, 0, 1, 2);
        check.due("off(1)", x.off(1), true);
        explained("off 1", x, 2, 1, 21, 0, 1, 1, 1, 0);
        check.due("off(20)", x.off(20), true);
        explained("off 20", x, 2, 1, 2, 0, 1, 1, 1, 0);
        check.due("off(22)", x.off(22), false);
        explained("refused changes nothing", x, 2, 1, 2, 0);
        x.off(0);
        explained("off 0", x, 3, 0, 0, 7);
    }

    private static void costs() {
        LitWindows x = Check.of("point a any; point b any; from a to b in 10; window a 5; window b 0; window b 7;");
        explained("no rows", x, 0, 0, 0, 0, 1, 0, 0, 0);
        check.due("explain(8)", x.explain(8), -1);
        check.due("explain(-1)", x.explain(-1), -1);
        x.log(0, 25);
        explained("one row", x, 1, 0, 0, 1, 1, 0, 0, 1);
        x.log(1, 30);
        explained("two rows", x, 2, 0, 0, 3, 2, 0, 1, 0);
        x.log(2, 37);
        x.log(0, 38);
        x.log(0, 40);
        explained("first rows count alone", x, 2, 1, 20, 0, 1, 1, 1, 0);
        LitWindows y = Check.of("point a any;");
        explained("without windows", y, 0, 0, 0, 0, 1, 0, 0, 0);
    }

    /** Like costs: the fewest points, the least heap, the least begin; what these have in common. */
    private static void ties() {
        String two = "point a any; point b any; point c any;"
            + "window a 0; window a 1; window a 2; window b 0; window b 1; window b 2; window c 0;";
        LitWindows x = logged(two, 0, 10, 1, 11, 2, 12, 3, 50, 4, 51, 5, 52);
        explained("a at 10 or b at 50", x, 5, 1, 10, 56, 2, 0, 3, 0);
        LitWindows y = logged(two, 0, 10, 3, 10, 1, 11, 4, 11, 2, 12, 5, 12, 6, 90);
        explained("a and b at 10", y, 5, 3, 10, 64, 1, 3, 3, 64);
        LitWindows z = logged("point a any; point b any; window a 3; window b 3; window a 9; window b 9;", 0, 7, 1, 7, 2, 13, 3, 13);
        explained("none, a, b, both", z, 4, 0, 0, 15, 4, 0, 3, 0);
        LitWindows u = logged("point a any; window a 0; window a 0; window a 0; window a 0; window a 0; window a 0;",
            3, 20, 4, 20, 5, 20, 0, 30, 1, 30, 2, 30);
        explained("the least begin", u, 5, 1, 20, 7, 1, 1, 1, 7);
        LitWindows v = logged("point a any; window a 0; window a 0; window a 0; window a 0; window a 0; window a 0;",
            0, 20, 1, 20, 2, 20, 3, 30, 4, 30, 5, 30);
        explained("the least begin, by other windows", v, 5, 1, 20, 56, 1, 1, 1, 56);
    }

    private static void lastRow() {
        String plant = "point a any; window a 0; window a 1; window a 2; window a 10;";
        explained("dark behind the last row", logged(plant, 0, 20, 1, 21, 2, 29), 3, 0, 0, 7, 2, 0, 1, 4);
        explained("should be lit in the last row's second", logged(plant, 0, 20, 1, 21, 2, 22, 2, 30), 3, 0, 0, 7, 2, 0, 1, 0);
        explained("a second before it", logged(plant, 0, 20, 1, 21, 2, 22, 2, 29), 2, 1, 20, 0);
        LitWindows x = logged(plant, 0, 0, 1, 1, 2, 2);
        explained("from second 0 on", x, 2, 1, 0, 0);
        explained("from second 1 on", logged(plant, 0, 1, 1, 2, 2, 3), 2, 1, 1, 0);
        explained("in the last second", logged("point a any; window a 0; window a 0; window a 0;", 0, 9, 1, 9, 2, 9), 2, 1, 9, 0);
        LitWindows y = logged("point a any; window a 60; window a 61;", 0, 50);
        explained("a plant with a fault is none", y, -1, -1);
        LitWindows z = logged("point a any; window a 60; window a 60; window a 60;", 0, 50, 1, 50, 2, 50);
        explained("it would have begun before 0", z, 3, 0, 0, 7, 1, 0, 0, 7);
        z.off(10);
        explained("E helps", z, 2, 1, 0, 0);
    }

    private static void moreCauses() {
        StringBuilder s = new StringBuilder();
        for (int i = 0; i < 4; i++) {
            s.append("point ").append((char) ('a' + i)).append(" any;");
        }
        for (int i = 0; i < 4; i++) {
            for (int j = 0; j < 3; j++) {
                s.append("window ").append((char) ('a' + i)).append(' ').append(10 * i + j).append(';');
            }
        }
        LitWindows x = Check.of(s.toString());
        for (int i = 0; i < 4; i++) {
            for (int j = 0; j < 3; j++) {
                x.log(3 * i + j, 100 + 10 * i + j);
            }
        }
        explained("at most three points", x, 9, 7, 100, 0xe00, 4, 0, 15, 0);
        LitWindows y = Check.of(s.toString());
        for (int i = 1; i < 4; i++) {
            for (int j = 0; j < 3; j++) {
                y.log(3 * i + j, 100 + 10 * i + j);
            }
        }
        explained("three points", y, 6, 14, 100, 0, 1, 14, 14, 0);
        String all = "point a any; point b any; point c all; from a to c in 1; from b to c in 2;"
            + "window c 0; window c 1; window c 2; window c 3; window c 4; window a 60; window b 60;";
        LitWindows z = logged(all, 0, 12, 1, 13, 2, 14, 3, 15, 4, 16);
        explained("c of its own is cheaper than a and b", z, 2, 4, 12, 0, 1, 4, 4, 0);
    }

    private static void sticking() {
        LitWindows x = logged("point a any; window a 5; window a 9; window a 20;", 0, 25, 1, 29, 2, 40);
        x.stick(0, 2);
        x.stick(1, 1);
        explained("as if none stuck", x, 2, 1, 20, 0);
    }

    private static void altering() {
        String plant = "point a any; point b any; from a to b in 10; window a 5; window b 0; window b 7; window b 60;";
        LitWindows x = logged(plant, 0, 25, 1, 30, 1, 33, 2, 37);
        check.due("as it is", x.explain(0), 2);
        check.due("altered to the same", x.altered(0, 25), 2);
        check.due("altered(0, 26)", x.altered(0, 26), 3);
        check.due("a row that isn't first", x.altered(2, 36), 2);
        check.due("altered(3, 999): window 3 should be lit by then", x.altered(3, 999), 3);
        check.due("altered(3, 19): no begin of 20 any more", x.altered(3, 19), 3);
        check.due("out of order: row 1 is still its window's first", x.altered(1, 999), 3);
        check.due("out of order: the last row is still the last", x.altered(0, 999), 3);
        check.due("altered(4, 40)", x.altered(4, 40), -1);
        check.due("altered(-1, 40)", x.altered(-1, 40), -1);
        check.due("altered(0, -1)", x.altered(0, -1), -1);
        check.due("altered(0, 1000)", x.altered(0, 1000), -1);
        check.due("nothing is changed", x.explain(0), 2);
        check.due("nothing is changed", x.joined(0), 4);
        x.off(1);
        check.due("altered(0, 26) with E 1", x.altered(0, 26), 2);
        x.erase();
        check.due("no rows", x.altered(0, 5), -1);
    }
}
