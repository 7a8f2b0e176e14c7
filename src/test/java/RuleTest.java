/** Promises 18 to 21: rest, till, board, harm. */
public final class RuleTest {
    private static final Check check = new Check("RuleTest");

    public static void main(String[] args) {
        resting();
        tills();
        boards();
        harms();
        fewest();
        check.finish();
    }

    private static void harm(String what, LitWindows x, int lost, int alike, int toRest) {
        check.due(what + ": lost", x.harm(0), lost);
        check.due(what + ": alike", x.harm(1), alike);
        check.due(what + ": to rest", x.harm(2), toRest);
    }

    private static void resting() {
        LitWindows x = Check.of("point a any; window a 1; window a 2; hide 0 while 1; hide 1 while 0;");
        check.due("rest(2, true)", x.rest(2, true), false);
        check.due("rest(-1, true)", x.rest(-1, true), false);
        check.due("rest(0, false)", x.rest(0, false), false);
        check.due("refused changes nothing", x.count(5), 0);
        check.due("rest(1, true)", x.rest(1, true), true);
        check.due("rest(1, true) again", x.rest(1, true), false);
        check.due("one rests", x.count(5), 1);
        check.due("only rule 0 hides", x.board(1, 5, 1), 2);
        check.due("rest(1, false)", x.rest(1, false), true);
        check.due("none rests", x.count(5), 0);
        check.due("both hide", x.board(1, 5, 1), 0);
    }

    private static void tills() {
        LitWindows x = Check.of("point a any; point b any; from a to b in 60; window a 60; window b 60;"
            + "window a 1; window b 1; hide 2 while 0; hide 3 while 0;");
        check.due("till(0)", x.till(0), false);
        check.due("till(-1)", x.till(-1), false);
        check.due("till(601)", x.till(601), false);
        harm("300 at first", x, 0, 0, 0);
        check.due("till(600)", x.till(600), true);
        harm("600", x, 0, 0, 0);
        check.due("till(1)", x.till(1), true);
        harm("1", x, 0, 0, 0);
        check.due("told till 1: reading from 1 ends behind it", x.told(0, 1), -1);
        check.due("till(2)", x.till(2), true);
        check.due("told till 2", x.told(0, 1), 2);
        check.due("till(601)", x.till(601), false);
        check.due("refused changes nothing", x.told(0, 2), -1);
    }

    private static void boards() {
        LitWindows x = Check.of("point a any; point b any; from a to b in 10; window a 5; window b 0; window b 7; window a 20;"
            + "hide 1 while 0; hide 2 while 1 not 3; hide 0 while 3;");
        int[][] due = {{4, 0, 0}, {5, 1, 1}, {9, 1, 1}, {10, 3, 1}, {17, 7, 1}, {19, 7, 1}, {20, 15, 12}, {999, 15, 12}};
        for (int[] row : due) {
            check.due("lit at " + row[0], x.board(1, row[0], 0), row[1]);
            check.due("shown at " + row[0], x.board(1, row[0], 1), row[2]);
        }
        check.due("b alone", x.board(2, 9, 1), 2);
        check.due("none", x.board(0, 9, 0), 0);
        check.due("board(1, -1, 0)", x.board(1, -1, 0), -1);
        check.due("board(1, 1000, 0)", x.board(1, 1000, 0), -1);
        check.due("board(4, 5, 0)", x.board(4, 5, 0), -1);
        check.due("board(-1, 5, 1)", x.board(-1, 5, 1), -1);
        check.due("board(1, 5, 2)", x.board(1, 5, 2), -1);
        check.due("board(1, 5, -1)", x.board(1, 5, -1), -1);
        x.rest(1, true);
        check.due("rule 1 rests", x.board(1, 17, 1), 5);
        x.stick(3, 1);
        check.due("stuck lit", x.board(0, 0, 0), 8);
        check.due("stuck lit hides", x.board(1, 5, 1), 8);
        x.stick(0, 2);
        check.due("dark hides nothing", x.board(1, 10, 1), 10);
    }

    private static void harms() {
        LitWindows x = Check.of("point a any; point b any; point c any; from a to b in 10;"
            + "window a 5; window b 0; hide 0 while 1; hide 1 while 0;");
        harm("a is lost, and like c", x, 1, 1, 1);
        check.due("harm(3)", x.harm(3), -1);
        check.due("harm(-1)", x.harm(-1), -1);
        x.rest(0, true);
        harm("shown: a has 0, b has 1", x, 0, 0, 0);
        x.rest(0, false);
        x.rest(1, true);
        harm("a like b", x, 0, 1, 1);
        x.rest(0, true);
        harm("all rest", x, 0, 0, 0);
        LitWindows y = Check.of("point a any; point b any; from a to b in 1; from b to a in 1; window a 1; window b 1; hide 0 while 1;");
        harm("like signs are not alike", y, 0, 0, 0);
        LitWindows z = Check.of("point a any; point b any; window a 1; window b 1; window a 2; window b 2;"
            + "hide 0 while 2; hide 2 while 0; hide 1 while 3; hide 3 while 1;");
        harm("both are lost, and alike", z, 2, 1, 5);
        z.stick(2, 2);
        harm("b is lost", z, 1, 0, 4);
    }

    private static void fewest() {
        LitWindows x = Check.of("point a any; window a 1; window a 2; window a 3;"
            + "hide 0 while 1; hide 0 while 2; hide 1 while 0; hide 2 while 0;");
        harm("of like ones the least", x, 1, 0, 4);
        x.rest(0, true);
        harm("besides those that rest", x, 1, 0, 2);
        x.rest(0, false);
        x.rest(2, true);
        harm("it rests already", x, 0, 0, 0);
        LitWindows y = Check.of("point a any; point b any; from a to b in 1; window a 1; window b 1; window a 1;"
            + "hide 0 while 1; hide 2 while 1; hide 0 while 2;");
        harm("one that is enough for two", y, 0, 1, 2);
        LitWindows z = Check.of("point a any; window a 1;");
        harm("without rules", z, 0, 0, 0);
        StringBuilder s = new StringBuilder();
        for (int i = 0; i < 9; i++) {
            s.append("point ").append((char) ('a' + i)).append(" any; window ").append((char) ('a' + i)).append(" 0;");
        }
        for (int i = 0; i < 8; i++) {
            s.append("hide ").append(i).append(" while 8;");
        }
        LitWindows u = Check.of(s.toString());
        harm("window 8 is dark with a to h", u, 0, 0, 0);
        u.stick(8, 1);
        harm("all but window 8 are hidden always", u, 0, 36, 255);
        u.rest(3, true);
        u.rest(7, true);
        harm("two rest already", u, 0, 21, 255 - 8 - 128);
    }
}
