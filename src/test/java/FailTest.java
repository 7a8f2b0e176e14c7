/** Promises 6 to 11: stick, window, fails, lit, first, horns. */
public final class FailTest {
    private static final Check check = new Check("FailTest");
    private static final String PLANT = "point a any; point b any; point c all; point d any; point e all;"
        + "from a to b in 10; from a to c in 3; from b to c in 5; from c to d in 0; from d to b in 2;"
        + "window a 5; window b 7 1 4 of 2; window c 9 2 of 1; window d 0; window b 60 60 60 of 3;";

    public static void main(String[] args) {
        sticking();
        windowParts();
        failing();
        rings();
        lighting();
        firstOut();
        horns();
        check.finish();
    }

    private static void sticking() {
        LitWindows x = Check.of(PLANT);
        check.due("stick(-1, 1)", x.stick(-1, 1), false);
        check.due("stick(5, 1)", x.stick(5, 1), false);
        check.due("stick(0, -1)", x.stick(0, -1), false);
        check.due("stick(0, 3)", x.stick(0, 3), false);
        check.due("refused changes nothing", x.count(6), 0);
        for (int how = 2; how >= 0; how--) {
            check.due("stick", x.stick(4, how), true);
            check.due("how it sticks", x.window(4, 2), how);
            check.due("stick again", x.stick(4, how), true);
        }
        x.stick(0, 1);
        check.due("lit by none", x.lit(0, 0), 0);
        check.due("lit by its own", x.lit(1, 0), 0);
        check.due("its point is as before", x.fails(0, 0), -1);
        x.stick(0, 2);
        check.due("dark", x.lit(1, 0), -1);
        check.due("dark windows fail no less", x.fails(1, 0), 0);
    }

    private static void windowParts() {
        LitWindows x = Check.of(PLANT);
        int[][] due = {{0, 5}, {1, 4}, {2, 2}, {3, 0}, {1, 60}};
        for (int w = 0; w < 5; w++) {
            check.due("point of " + w, x.window(w, 0), due[w][0]);
            check.due("lag of " + w, x.window(w, 1), due[w][1]);
            check.due("sticking of " + w, x.window(w, 2), 0);
            check.due("place of " + w, x.window(w, 3), w);
        }
        check.due("window(0, 4)", x.window(0, 4), -1);
        check.due("window(0, -1)", x.window(0, -1), -1);
        check.due("window(5, 0)", x.window(5, 0), -1);
        check.due("window(-1, 0)", x.window(-1, 0), -1);
        int[][] lags = {{4, 9, 6}, {9, 6, 4}, {6, 6, 2}, {7, 3, 7}, {0, 60, 0}};
        int[][] sorted = {{4, 6, 9}, {4, 6, 9}, {2, 6, 6}, {3, 7, 7}, {0, 0, 60}};
        for (int i = 0; i < lags.length; i++) {
            for (int k = 1; k <= 3; k++) {
                LitWindows y = Check.of("point a any; window a " + lags[i][0] + " " + lags[i][1] + " " + lags[i][2] + " of " + k + ";");
                check.due("least lag " + k + " of row " + i, y.window(0, 1), sorted[i][k - 1]);
            }
        }
        LitWindows y = Check.of("point a any; window a 8 3 of 1; window a 8 3 of 2;");
        check.due("least of two", y.window(0, 1), 3);
        check.due("second of two", y.window(1, 1), 8);
    }

    private static void failing() {
        LitWindows x = Check.of(PLANT);
        int[][] due = {
            {-1, -1, -1, -1, -1}, {0, 10, 15, 15, -1}, {-1, 0, -1, -1, -1}, {0, 0, 5, 5, -1},
            {-1, 2, 0, 0, -1}, {0, 2, 0, 0, -1}, {-1, 0, 0, 0, -1}, {0, 0, 0, 0, -1},
            {-1, 2, -1, 0, -1}, {0, 2, 7, 0, -1}};
        for (int heap = 0; heap < due.length; heap++) {
            for (int p = 0; p < 5; p++) {
                check.due("fails(" + heap + ", " + p + ")", x.fails(heap, p), due[heap][p]);
            }
        }
        check.due("all without arcs of its own", x.fails(16, 4), 0);
        check.due("fails(32, 0)", x.fails(32, 0), -1);
        check.due("fails(-1, 0)", x.fails(-1, 0), -1);
        check.due("fails(MIN, 0)", x.fails(Integer.MIN_VALUE, 0), -1);
        check.due("fails(1, 5)", x.fails(1, 5), -1);
        check.due("fails(1, -1)", x.fails(1, -1), -1);
        StringBuilder chain = new StringBuilder();
        for (int i = 0; i < 12; i++) {
            chain.append("point ").append((char) ('l' - i)).append(" all;");
        }
        for (int i = 0; i < 11; i++) {
            chain.append("from ").append((char) ('a' + i)).append(" to ").append((char) ('b' + i)).append(" in 60;");
        }
        LitWindows y = Check.of(chain.toString());
        check.due("a chain's end", y.fails(1 << 11, 0), 660);
        check.due("a heap of twelve", y.fails(4095, 0), 0);
        check.due("a heap too great", y.fails(4096, 0), -1);
    }

    private static void rings() {
        LitWindows x = Check.of("point a any; point b any; point c all; point d all; point e any;"
            + "from a to b in 0; from b to a in 0; from c to d in 0; from d to c in 0; from c to c in 0; from e to d in 4; from e to a in 3; from e to e in 0;");
        check.due("none fails by itself", x.fails(0, 0), -1);
        check.due("any by e", x.fails(16, 0), 3);
        check.due("any by e and on", x.fails(16, 1), 3);
        check.due("all ring", x.fails(16, 3), -1);
        check.due("all ring", x.fails(16, 2), -1);
        check.due("one of the ring, and e", x.fails(20, 3), 4);
        check.due("one of the ring alone", x.fails(4, 3), -1);
        check.due("d doesn't bring c, which waits for itself", x.fails(8, 2), -1);
    }

    private static void lighting() {
        LitWindows x = Check.of(PLANT);
        int[] due = {5, 14, 17, 15, 70};
        for (int w = 0; w < 5; w++) {
            check.due("lit(1, " + w + ")", x.lit(1, w), due[w]);
            check.due("lit(0, " + w + ")", x.lit(0, w), -1);
            check.due("lit(32, " + w + ")", x.lit(32, w), -1);
            check.due("lit(-1, " + w + ")", x.lit(-1, w), -1);
        }
        check.due("lit(2, 0)", x.lit(2, 0), -1);
        check.due("lit(1, 5)", x.lit(1, 5), -1);
        check.due("lit(1, -1)", x.lit(1, -1), -1);
        x.stick(3, 1);
        check.due("stuck lit, no such heap", x.lit(32, 3), -1);
    }

    private static void firstOut() {
        LitWindows x = Check.of(PLANT);
        check.due("first(1, 0)", x.first(1, 0), 0);
        check.due("first(1, 1)", x.first(1, 1), 0);
        check.due("first(4, 0)", x.first(4, 0), 3);
        check.due("first(4, 1): d isn't of the heap", x.first(4, 1), 1);
        check.due("first(12, 1)", x.first(12, 1), 0);
        check.due("first(16, 0)", x.first(16, 0), -1);
        check.due("first(16, 1)", x.first(16, 1), -1);
        check.due("first(0, 0)", x.first(0, 0), -1);
        check.due("first(1, 2)", x.first(1, 2), -1);
        check.due("first(1, -1)", x.first(1, -1), -1);
        check.due("first(32, 0)", x.first(32, 0), -1);
        check.due("first(-1, 1)", x.first(-1, 1), -1);
        x.stick(3, 1);
        check.due("stuck lit isn't first", x.first(4, 0), 2);
        x.stick(0, 2);
        check.due("dark isn't first", x.first(1, 0), 1);
        check.due("and it lies", x.first(1, 1), 1);
        LitWindows y = Check.of("point a any; point b any; from a to b in 4; window b 1; window a 5; window a 5;");
        check.due("of like ones the least", y.first(1, 0), 0);
        check.due("which lies", y.first(1, 1), 1);
        check.due("both of the heap", y.first(3, 1), 0);
        y.stick(0, 1);
        check.due("of like ones the least", y.first(1, 0), 1);
    }

    private static void horns() {
        LitWindows x = Check.of("point a any; window a 0; window a 5; window a 5; window a 9; window a 10; window a 60;");
        int[] s = {1, 4, 5, 6, 9, 10, 11, 60};
        int[] due = {5, 4, 4, 3, 3, 3, 2, 2};
        for (int i = 0; i < s.length; i++) {
            check.due("horns(1, " + s[i] + ")", x.horns(1, s[i]), due[i]);
        }
        check.due("horns(0, 5)", x.horns(0, 5), 0);
        check.due("horns(1, 0)", x.horns(1, 0), -1);
        check.due("horns(1, 61)", x.horns(1, 61), -1);
        check.due("horns(2, 5)", x.horns(2, 5), -1);
        check.due("horns(-1, 5)", x.horns(-1, 5), -1);
        x.stick(0, 1);
        check.due("stuck lit begins none", x.horns(1, 10), 2);
        check.due("stuck lit begins none", x.horns(0, 10), 0);
        x.stick(5, 2);
        check.due("dark begins none", x.horns(1, 10), 1);
        check.due("horns(1, 1) of 5, 9 and 10", x.horns(1, 1), 3);
    }
}
