/** The edges that "Terms" 3 and promises 12 to 17 name: each method bears the sentence that it holds to. */
public final class LogEdgeTest {
    private static final Check check = new Check("LogEdgeTest");
    private static final int[] NO_SECONDS = {-1, -2, -999, 1000, 1001, 65536, Integer.MIN_VALUE, Integer.MAX_VALUE};

    public static void main(String[] args) {
        atMost60Rows();
        secondsOfRows();
        noneLessThanTheOneAhead();
        windowsOfRows();
        erasing();
        joinedGaps();
        joinedBySameWindowAlone();
        joinedManyOrNone();
        offs();
        unlikeByEAtMost();
        noRowTillTheLast();
        rowButNeverLit();
        beginFromZero();
        beginTillTheLastRow();
        withoutRows();
        withoutWindows();
        firstRowAlone();
        atMostThreePoints();
        leastOfLikeOnes();
        manyHeaps();
        stickingIsNotLookedAt();
        whatsOfExplain();
        alteredRows();
        alteredSeconds();
        alteredLastRow();
        alteredOrder();
        withoutPlant();
        check.finish();
    }

    private static LitWindows logged(String plant, int... rows) {
        LitWindows x = Check.of(plant);
        for (int i = 0; i + 1 < rows.length; i += 2) {
            check.due("log(" + rows[i] + ", " + rows[i + 1] + ")", x.log(rows[i], rows[i + 1]), i / 2 + 1);
        }
        return x;
    }

    private static void explained(String what, LitWindows x, int... due) {
        for (int i = 0; i < due.length; i++) {
            check.due(what + ": explain(" + i + ")", x.explain(i), due[i]);
        }
    }

    /** "A LOG has at most 60 rows"; "NONE if .. 60 are." */
    private static void atMost60Rows() {
        LitWindows x = Check.of("point a any;window a 0;");
        for (int i = 1; i <= 60; i++) {
            check.due("row " + i, x.log(0, 7), i);
        }
        for (int i = 0; i < 3; i++) {
            check.due("a 61st row", x.log(0, 7 + i), -1);
            check.due("rows", x.count(4), 60);
        }
        check.due("the first row counts", x.explain(0), 1);
        check.due("altered(59, 7)", x.altered(59, 7), 1);
        check.due("altered(60, 7)", x.altered(60, 7), -1);
        check.due("not joined", x.joined(0), 60);
        check.due("joined", x.joined(1), 1);
        check.due("erase", x.erase(), 60);
        check.due("room again", x.log(0, 0), 1);
    }

    /** "a second (0 .. 999)"; "it can't be" */
    private static void secondsOfRows() {
        for (int second : NO_SECONDS) {
            LitWindows x = Check.of("point a any;window a 0;");
            check.due("log(0, " + second + ")", x.log(0, second), -1);
            check.due("rows", x.count(4), 0);
            check.due("log(0, 0)", x.log(0, 0), 1);
            check.due("log(0, " + second + ")", x.log(0, second), -1);
            check.due("rows", x.count(4), 1);
            check.due("log(0, 999)", x.log(0, 999), 2);
            check.due("log(0, " + second + ")", x.log(0, second), -1);
            check.due("rows", x.count(4), 2);
            check.due("log(0, 999) again", x.log(0, 999), 3);
            check.due("log(0, 998)", x.log(0, 998), -1);
        }
    }

    /** "none less than the one ahead" */
    private static void noneLessThanTheOneAhead() {
        LitWindows x = logged("point a any;window a 0;window a 0;", 0, 5, 1, 5, 1, 6);
        check.due("one less, of the same window", x.log(1, 5), -1);
        check.due("one less, of another", x.log(0, 5), -1);
        check.due("0", x.log(0, 0), -1);
        check.due("rows", x.count(4), 3);
        check.due("a refused one is not ahead", x.log(2, 500), -1);
        check.due("a refused one is not ahead", x.log(0, 1000), -1);
        check.due("the same second", x.log(0, 6), 4);
        check.due("one more", x.log(0, 7), 5);
        check.due("and one less than that", x.log(0, 6), -1);
    }

    /** "NONE if there is no such WINDOW" */
    private static void windowsOfRows() {
        for (int many = 0; many <= 12; many++) {
            LitWindows x = Check.of("point a any;" + "window a 7;".repeat(many));
            for (int w : new int[] {-1, Integer.MIN_VALUE, many, many + 1, Integer.MAX_VALUE}) {
                check.due("log(" + w + ", 5) of " + many, x.log(w, 5), -1);
            }
            check.due("rows", x.count(4), 0);
            for (int w = 0; w < many; w++) {
                check.due("log(" + w + ", 5) of " + many, x.log(w, 5), w + 1);
            }
            check.due("rows", x.count(4), many);
        }
    }

    /** "The LOG is empty: how many rows it had." */
    private static void erasing() {
        LitWindows x = Check.of("point a any;window a 0;window a 1;window a 2;");
        check.due("erase of none", x.erase(), 0);
        for (int many = 1; many <= 60; many += 59) {
            for (int i = 0; i < many; i++) {
                x.log(i % 3, 900);
            }
            check.due("erase", x.erase(), many);
            check.due("rows", x.count(4), 0);
            check.due("erase again", x.erase(), 0);
            check.due("joined", x.joined(60), 0);
            check.due("no row to alter", x.altered(0, 5), -1);
            explained("nothing to explain", x, 0, 0, 0, 0, 1, 0, 0, 0);
            check.due("from 0 on again", x.log(0, 0), 1);
            x.erase();
        }
    }

    /** "less than G seconds behind the row of the same WINDOW ahead of it"; "G (0 .. 60)" */
    private static void joinedGaps() {
        for (int gap = 0; gap <= 61; gap++) {
            LitWindows x = logged("point a any;window a 0;", 0, 100, 0, 100 + gap);
            for (int g = 0; g <= 60; g++) {
                check.due("gap " + gap + ": joined(" + g + ")", x.joined(g), gap < g ? 1 : 2);
            }
        }
        LitWindows x = logged("point a any;window a 0;", 0, 0, 0, 0);
        for (int g : new int[] {-1, -2, 61, 62, 600, Integer.MIN_VALUE, Integer.MAX_VALUE}) {
            check.due("joined(" + g + ")", x.joined(g), -1);
        }
        check.due("G 0 joins none", x.joined(0), 2);
        check.due("G 1 joins those of one second", x.joined(1), 1);
    }

    /** "of the same WINDOW ahead of it (the last one ahead, joined or not)" */
    private static void joinedBySameWindowAlone() {
        LitWindows x = logged("point a any;window a 0;window a 0;", 0, 0, 0, 5, 0, 10, 0, 15);
        check.due("each by the last one ahead", x.joined(6), 1);
        check.due("5 is not less than 5", x.joined(5), 4);
        LitWindows y = logged("point a any;window a 0;window a 0;", 0, 10, 1, 11, 0, 12, 1, 13, 0, 20, 1, 20);
        check.due("2 is less than 3", y.joined(3), 4);
        check.due("2 is not less than 2", y.joined(2), 6);
        check.due("7 is less than 8, 8 is not", y.joined(8), 3);
        check.due("all but two", y.joined(9), 2);
        LitWindows z = logged("point a any;" + "window a 0;".repeat(12), 0, 5, 1, 5, 2, 5, 11, 5, 10, 5);
        check.due("rows of other windows join none", z.joined(60), 5);
    }

    /** "How many rows of the LOG aren't JOINED, by G (0 .. 60)": of none, and of as many as there can be */
    private static void joinedManyOrNone() {
        LitWindows x = Check.of("point a any;window a 0;");
        for (int g = 0; g <= 60; g++) {
            check.due("no rows: joined(" + g + ")", x.joined(g), 0);
        }
        check.due("no rows: joined(61)", x.joined(61), -1);
        check.due("no rows: joined(-1)", x.joined(-1), -1);
        for (int i = 0; i < 60; i++) {
            x.log(0, 999 - 59 + i);
        }
        check.due("sixty: joined(0)", x.joined(0), 60);
        check.due("sixty: joined(1)", x.joined(1), 60);
        check.due("sixty: joined(2)", x.joined(2), 1);
        check.due("sixty: joined(60)", x.joined(60), 1);
        check.due("asking joins none", x.count(4), 60);
    }

    /** "E of EXPLANATIONS (0 .. 20; 0 at first): true; false if it can't be." */
    private static void offs() {
        for (int e : new int[] {-1, -2, -20, 21, 22, 200, Integer.MIN_VALUE, Integer.MAX_VALUE}) {
            LitWindows x = logged("point a any;window a 0;window a 0;window a 0;", 0, 100, 1, 100, 2, 100);
            check.due("off(" + e + ")", x.off(e), false);
            explained("E is 0 at first", x, 2, 1, 100, 0);
            check.due("off(20)", x.off(20), true);
            explained("E is 20", x, 2, 1, 80, 0);
            check.due("off(" + e + ")", x.off(e), false);
            explained("E is 20 still", x, 2, 1, 80, 0);
            check.due("off(20) again", x.off(20), true);
            check.due("off(0)", x.off(0), true);
            explained("E is 0 again", x, 2, 1, 100, 0);
        }
        LitWindows y = Check.of("point a any;window a 0;window a 0;window a 0;");
        check.due("off(7)", y.off(7), true);
        Check.write(y, "point b any;window b 0;window b 0;window b 0;");
        y.plant();
        for (int w = 0; w < 3; w++) {
            y.log(w, 100);
        }
        explained("E stays as a plant comes", y, 2, 1, 93, 0);
    }

    /** "are unlike by E at most": E on either side can be, one more can't */
    private static void unlikeByEAtMost() {
        for (int e = 0; e <= 20; e++) {
            LitWindows x = logged("point a any;window a 0;window a 0;window a 60;", 0, 100, 1, 100 + 2 * e, 2, 160 + 2 * e);
            x.off(e);
            explained("twice " + e + " apart, E " + e, x, 2, 1, 100 + e, 0, 1, 1, 1, 0);
            check.due("one second more", x.altered(1, 101 + 2 * e), 3);
            check.due("one second less", x.altered(0, 99), 3);
            if (e < 20) {
                x.off(e + 1);
                check.due("one second more, E one more", x.altered(1, 101 + 2 * e), 2);
            }
        }
    }

    /** "or it has no row, and should not be LIT till the last row's second" */
    private static void noRowTillTheLast() {
        // Windows 0 to 2 tell B = 100; window 3 would be lit at 130 and has no row; window 1 has a last row.
        String plant = "point a any;window a 0;window a 0;window a 0;window a 30;";
        int[] last = {100, 128, 129, 130, 131, 999};
        int[] cost = {2, 2, 2, 3, 3, 3};
        for (int i = 0; i < last.length; i++) {
            LitWindows x = logged(plant, 0, 100, 1, 100, 2, 100, 1, last[i]);
            check.due("last row at " + last[i], x.explain(0), cost[i]);
            check.due("heaps", x.explain(4), cost[i] == 3 ? 2 : 1);
            x.off(20);
            check.due("E lets B come later, but a window without a row is not helped by it", x.explain(0), last[i] < 150 ? 2 : 3);
        }
        LitWindows never = logged("point a any;point b any;window a 0;window a 0;window a 0;window b 0;", 0, 100, 1, 100, 2, 100, 2, 999);
        explained("never lit and no row", never, 2, 1, 100, 0, 1, 1, 1, 0);
    }

    /** "else WRONG": a window with a row that should never be lit */
    private static void rowButNeverLit() {
        LitWindows x = logged("point a any;point b all;window a 0;window a 0;window a 0;window b 0;", 0, 0, 1, 0, 2, 0, 3, 0);
        explained("b never fails by a", x, 3, 1, 0, 8, 1, 1, 1, 8);
        x.off(20);
        explained("E helps nothing there", x, 3, 1, 0, 8, 1, 1, 1, 8);
    }

    /** "a second B (0 .." */
    private static void beginFromZero() {
        String plant = "point a any;window a 30;window a 30;window a 30;";
        explained("B 0", logged(plant, 0, 30, 1, 30, 2, 30), 2, 1, 0, 0);
        explained("B 1", logged(plant, 0, 31, 1, 31, 2, 31), 2, 1, 1, 0);
        LitWindows x = logged(plant, 0, 29, 1, 29, 2, 29);
        explained("B -1 can't be", x, 3, 0, 0, 7, 1, 0, 0, 7);
        x.off(1);
        explained("by E 1 B is 0", x, 2, 1, 0, 0);
        LitWindows y = logged(plant, 0, 9, 1, 9, 2, 9);
        y.off(20);
        explained("21 apart from B 0", y, 3, 0, 0, 7);
        LitWindows z = logged(plant, 0, 10, 1, 10, 2, 10);
        z.off(20);
        explained("20 apart from B 0", z, 2, 1, 0, 0);
        LitWindows wide = logged(plant, 0, 45, 1, 45, 2, 45);
        wide.off(20);
        explained("B is the least of all that are right, not below 0", wide, 2, 1, 0, 0);
    }

    /** ".. that of the last row" */
    private static void beginTillTheLastRow() {
        String plant = "point a any;window a 0;window a 0;window a 0;window a 0;";
        LitWindows x = logged(plant, 0, 10, 1, 10, 2, 10);
        x.off(5);
        explained("B 11 would make window 3 right, but can't be", x, 3, 0, 0, 7, 2, 0, 1, 0);
        LitWindows y = logged(plant, 0, 10, 1, 10, 2, 10, 2, 11);
        y.off(5);
        explained("B 11 is the last, window 3 should be lit in it", y, 3, 0, 0, 7, 2, 0, 1, 0);
        explained("B is the last row's", logged(plant, 0, 10, 1, 10, 2, 10, 3, 10), 2, 1, 10, 0);
        explained("B is 999", logged(plant, 0, 999, 1, 999, 2, 999, 3, 999), 2, 1, 999, 0);
        explained("B is 0", logged(plant, 0, 0, 1, 0, 2, 0, 3, 0), 2, 1, 0, 0);
        String later = "point a any;window a 0;window a 0;window a 0;window a 1;";
        LitWindows z = logged(later, 0, 10, 1, 10, 2, 10);
        explained("window 3 comes behind the last row", z, 2, 1, 10, 0);
        z.off(5);
        explained("with E too: B 10 alone has window 3 right", z, 2, 1, 10, 0, 1, 1, 1, 0);
    }

    /** "0 without rows" */
    private static void withoutRows() {
        LitWindows x = Check.of("point a any;point b all;from a to b in 0;window a 0;window b 60;");
        explained("no rows", x, 0, 0, 0, 0, 1, 0, 0, 0);
        x.off(20);
        explained("no rows, E 20", x, 0, 0, 0, 0, 1, 0, 0, 0);
        x.log(0, 10);
        x.erase();
        explained("erased", x, 0, 0, 0, 0, 1, 0, 0, 0);
    }

    /** "NONE if there is no such WINDOW": then no row can be, and none is to be explained */
    private static void withoutWindows() {
        LitWindows x = Check.of("point a any;");
        explained("without windows", x, 0, 0, 0, 0, 1, 0, 0, 0);
        check.due("no row can be", x.log(0, 0), -1);
        check.due("no row to alter", x.altered(0, 0), -1);
    }

    /** "The FIRST ROW of a WINDOW counts alone in what follows." */
    private static void firstRowAlone() {
        LitWindows x = logged("point a any;window a 0;window a 5;window a 9;", 0, 50, 1, 55, 1, 56, 0, 57, 2, 59, 2, 60);
        explained("first rows", x, 2, 1, 50, 0);
        check.due("a row behind it counts not", x.altered(2, 58), 2);
        check.due("nor does another", x.altered(3, 59), 2);
        LitWindows y = logged("point a any;window a 0;window a 5;window a 9;", 0, 40, 0, 50, 1, 55, 2, 59);
        explained("the first row is wrong, though the second one fits", y, 3, 0, 0, 7, 2, 0, 1, 1);
    }

    /** "a heap of at most 3 POINTS (or none)" */
    private static void atMostThreePoints() {
        StringBuilder s = new StringBuilder();
        for (int i = 0; i < 4; i++) {
            s.append("point ").append((char) ('a' + i)).append(" any;");
        }
        for (int i = 0; i < 12; i++) {
            s.append("window ").append((char) ('a' + i / 3)).append(" 0;");
        }
        for (int left = 0; left < 4; left++) {
            LitWindows x = Check.of(s.toString());
            for (int w = 0; w < 12; w++) {
                if (w / 3 != left) {
                    x.log(w, 20);
                }
            }
            explained("three but " + left, x, 6, 15 & ~(1 << left), 20, 0, 1, 15 & ~(1 << left), 15 & ~(1 << left), 0);
        }
        LitWindows all = Check.of(s.toString());
        for (int w = 0; w < 12; w++) {
            all.log(w, 20);
        }
        explained("four would cost 8", all, 9, 7, 20, 0xe00, 4, 0, 15, 0);
        StringBuilder t = new StringBuilder();
        for (int i = 0; i < 12; i++) {
            t.append("point ").append((char) ('a' + i)).append(" any;");
        }
        for (int i = 0; i < 12; i++) {
            t.append("window ").append("jkl".charAt(i % 3)).append(' ').append(i).append(';');
        }
        LitWindows last = Check.of(t.toString());
        for (int w = 0; w < 12; w++) {
            last.log(w, 988 + w);
        }
        explained("the last three of twelve", last, 6, 0xe00, 988, 0, 1, 0xe00, 0xe00, 0);
    }

    /** "of like ones with the fewest POINTS, then the least heap as bits, then the least B" */
    private static void leastOfLikeOnes() {
        LitWindows none = logged("point a any;window a 0;window a 0;", 0, 30, 1, 30);
        explained("none or one", none, 2, 0, 0, 3, 2, 0, 1, 0);
        LitWindows one = logged("point a any;point b any;point c any;window a 0;window a 0;window a 0;window b 0;window b 0;window c 0;window c 0;",
            0, 30, 1, 30, 2, 30, 3, 30, 4, 30);
        explained("a, or a and b", one, 4, 1, 30, 24, 2, 1, 3, 0);
        LitWindows bits = logged("point a any;point b any;point c any;from c to a in 0;from c to b in 0;from b to a in 0;from a to b in 0;window a 0;window b 0;window a 0;",
            0, 30, 1, 30, 2, 30);
        explained("a, b or c", bits, 2, 1, 30, 0, 3, 0, 7, 0);
        LitWindows begin = logged("point a any;window a 0;window a 0;window a 0;window a 0;window a 0;window a 0;", 0, 30, 1, 30, 2, 30, 3, 31, 4, 31, 5, 31);
        explained("the least B", begin, 5, 1, 30, 56, 1, 1, 1, 56);
        begin.off(1);
        explained("both right", begin, 2, 1, 30, 0, 1, 1, 1, 0);
    }

    /** "how many heaps have that COST (with some B), POINTS in all these heaps, in some" */
    private static void manyHeaps() {
        StringBuilder ring = new StringBuilder();
        for (int i = 0; i < 12; i++) {
            ring.append("point ").append((char) ('a' + i)).append(" any;");
        }
        for (int i = 0; i < 12; i++) {
            ring.append("from ").append((char) ('a' + i)).append(" to ").append((char) ('a' + (i + 1) % 12)).append(" in 0;");
        }
        for (int i = 0; i < 12; i++) {
            ring.append("window ").append((char) ('a' + i)).append(" 0;");
        }
        LitWindows x = Check.of(ring.toString());
        for (int w = 0; w < 12; w++) {
            x.log(w, 7);
        }
        explained("any of twelve", x, 2, 1, 7, 0, 12, 0, 4095, 0);
        StringBuilder pairs = new StringBuilder();
        for (int i = 0; i < 6; i++) {
            pairs.append("point ").append((char) ('a' + i)).append(" any;window ").append((char) ('a' + i)).append(" 0;");
            pairs.append("window ").append((char) ('a' + i)).append(" 0;");
        }
        LitWindows y = Check.of(pairs.toString());
        for (int w = 0; w < 12; w++) {
            y.log(w, 7);
        }
        explained("none, one, two or three of six", y, 12, 0, 0, 4095, 42, 0, 63, 0);
        LitWindows each = Check.of(pairs.toString());
        for (int w = 0; w < 12; w++) {
            each.log(w, 10 * (w / 2));
        }
        explained("none, or one at its own second", each, 12, 0, 0, 4095, 7, 0, 63, 0);
    }

    /** "(Sticking is not looked at: all WINDOWS as if none did.)" */
    private static void stickingIsNotLookedAt() {
        for (int how = 0; how < 3; how++) {
            LitWindows x = logged("point a any;window a 5;window a 9;window a 20;window a 60;", 0, 25, 1, 29, 2, 40);
            for (int w = 0; w < 4; w++) {
                x.stick(w, how);
            }
            explained("sticking " + how, x, 2, 1, 20, 0, 1, 1, 1, 0);
            check.due("altered, sticking " + how, x.altered(0, 26), 3);
        }
    }

    /** "NONE for others, or without a PLANT." */
    private static void whatsOfExplain() {
        LitWindows x = logged("point a any;window a 5;", 0, 9);
        for (int what : new int[] {-1, -2, 8, 9, 100, Integer.MIN_VALUE, Integer.MAX_VALUE}) {
            check.due("explain(" + what + ")", x.explain(what), -1);
        }
        explained("0 to 7", x, 1, 0, 0, 1, 1, 0, 0, 1);
    }

    /** "NONE if there is no such row" */
    private static void alteredRows() {
        LitWindows x = Check.of("point a any;window a 0;");
        for (int rows = 0; rows <= 60; rows++) {
            check.due("altered(-1) of " + rows, x.altered(-1, 5), -1);
            check.due("altered(" + rows + ") of " + rows, x.altered(rows, 5), -1);
            if (rows > 0) {
                check.due("altered of the last of " + rows, x.altered(rows - 1, 5), 1);
                check.due("altered of the first of " + rows, x.altered(0, 5), 1);
            }
            x.log(0, 5);
        }
        check.due("altered(MIN)", x.altered(Integer.MIN_VALUE, 5), -1);
        check.due("altered(MAX)", x.altered(Integer.MAX_VALUE, 5), -1);
    }

    /** "another second (0 .. 999 ..); NONE if .. it can't be" */
    private static void alteredSeconds() {
        LitWindows x = logged("point a any;window a 0;window a 0;window a 0;", 0, 5, 1, 5, 2, 5);
        for (int second : NO_SECONDS) {
            for (int k = 0; k < 3; k++) {
                check.due("altered(" + k + ", " + second + ")", x.altered(k, second), -1);
            }
        }
        check.due("altered(0, 0)", x.altered(0, 0), 3);
        check.due("altered(2, 999)", x.altered(2, 999), 3);
        check.due("altered(1, 5)", x.altered(1, 5), 2);
        explained("the rows are as they were", x, 2, 1, 5, 0);
        check.due("the rows are as they were", x.log(2, 4), -1);
        check.due("the rows are as they were", x.log(2, 5), 4);
    }

    /** "what the last row has stands for B's end" */
    private static void alteredLastRow() {
        LitWindows x = logged("point a any;window a 0;window a 0;window a 0;window a 30;", 0, 100, 1, 100, 2, 100, 2, 110);
        check.due("as it is", x.explain(0), 2);
        check.due("window 3 is behind the last row", x.altered(3, 129), 2);
        check.due("window 3 is in the last row's second", x.altered(3, 130), 3);
        check.due("B can be 100", x.altered(3, 100), 2);
        check.due("B can't be 100", x.altered(3, 99), 3);
        x.off(1);
        check.due("B is 99 by E 1", x.altered(3, 99), 2);
        check.due("B can't be 99", x.altered(3, 98), 3);
        LitWindows one = logged("point a any;window a 60;window a 0;window a 0;", 0, 50);
        check.due("one row", one.explain(0), 1);
        check.due("one row altered", one.altered(0, 999), 1);
    }

    /** "in the same order of rows": a second out of order keeps the row where it is */
    private static void alteredOrder() {
        LitWindows x = logged("point a any;window a 0;window a 0;window a 0;window a 0;", 0, 100, 1, 100, 2, 100, 3, 100, 3, 120);
        check.due("row 0 behind all others", x.altered(0, 999), 3);
        check.due("row 3 is still its window's first", x.altered(3, 130), 3);
        check.due("row 4 isn't, though ahead", x.altered(4, 100), 2);
        LitWindows y = logged("point a any;window a 0;window a 0;window a 0;window a 30;", 0, 100, 1, 100, 2, 100, 0, 105, 2, 110);
        check.due("row 3 behind the last makes no other end", y.altered(3, 999), 2);
    }

    /** "NONE for others, or without a PLANT."; the LOG is empty then */
    private static void withoutPlant() {
        LitWindows x = new LitWindows();
        for (int what = -1; what <= 8; what++) {
            check.due("without a plant: explain(" + what + ")", x.explain(what), -1);
        }
        for (int k = -1; k <= 1; k++) {
            check.due("without a plant: altered(" + k + ", 0)", x.altered(k, 0), -1);
            check.due("without a plant: log(" + k + ", 0)", x.log(k, 0), -1);
        }
        check.due("without a plant: rows", x.count(4), 0);
        check.due("without a plant: erase", x.erase(), 0);
        check.due("without a plant: joined(60)", x.joined(60), 0);
        check.due("without a plant: joined(61)", x.joined(61), -1);
        check.due("without a plant: off(20)", x.off(20), true);
        check.due("without a plant: off(21)", x.off(21), false);
    }
}
